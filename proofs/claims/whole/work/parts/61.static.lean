set_option maxHeartbeats 4000000 in
set_option maxRecDepth 100000 in
theorem c_X0_hasFact (l : Launch) {x0 : Int32} {x1 : Int32} {post : Int32 → Prop} (h : P_X0_hasFact x0 x1 post) : Met l yX0_hasFact wsX0_hasFact ({ frames := 0, cells := 0, slots := 0, locals := 0 } : Room) (va_Pc [.int x0, .int x1] (fun _ => True)) (vp_Si post) 0 0 (fun _ => False) := by
  refine Met.ofW (cc := cX0_hasFact) (maxL := 2) (ret := (some .boolean)) (by decide) rfl ?_
  intro p e s m args below meth c s₁ B hml hv
  obtain ⟨rfl, -⟩ := hv
  have hx := B.exec
  have hb := B.bytes
  have hr := B.returns
  have hts := atoms_spec (ws := wsX0_hasFact) B.pre
  have hown : s.vm.findClass RX0 = some m.cls := findClass_of_methodNamed B.named
  have hlocks := B.notSynchronized
  have hl := lv_entry ([.int x0, .int x1]) (n := 2) (Nat.le_of_ble_eq_true rfl)
  rw [lg_entry_eq]
  generalize (lg_sl ([.int x0, .int x1]) ++ List.replicate (2 - (lg_sl ([.int x0, .int x1])).length) Slot.unset).toArray = ls at hl ⊢
  have hl : lv_has ls 2 [(0, .int x0), (1, .int x1)] := hl
  unfold P_X0_hasFact at h
  refine lv_iload_n hx hb dX0_hasFact_0 rfl (lv_at hl 0 rfl) ?_
  refine lv_if_lt (tgt := 24) hx hb dX0_hasFact_1 (by decide) (fun c_1 => ?_) (fun c_1 => ?_)
  · have h := br1 h c_1
    refine lv_iconst (v := 0) hx hb dX0_hasFact_24 (by decide) ?_
    exact W.zret (ty := .boolean) hx hb hr rfl (fun t ht _ => ⟨_, rfl, h, ht⟩) (fun q hq => by cases hq) dX0_hasFact_25
  · have h := br2 h c_1
    refine lv_iload_n hx hb dX0_hasFact_4 rfl (lv_at hl 0 rfl) ?_
    refine lv_bipush (v := 16) hx hb dX0_hasFact_5 (by decide) ?_
    refine lv_icmp_ge (tgt := 24) hx hb dX0_hasFact_7 (by decide) (fun c_7 => ?_) (fun c_7 => ?_)
    · have h := br1 h c_7
      refine lv_iconst (v := 0) hx hb dX0_hasFact_24 (by decide) ?_
      exact W.zret (ty := .boolean) hx hb hr rfl (fun t ht _ => ⟨_, rfl, h, ht⟩) (fun q hq => by cases hq) dX0_hasFact_25
    · have h := br2 h c_7
      refine lv_iload_n hx hb dX0_hasFact_10 rfl (lv_at hl 1 rfl) ?_
      refine lv_if_lt (tgt := 24) hx hb dX0_hasFact_11 (by decide) (fun c_11 => ?_) (fun c_11 => ?_)
      · have h := br1 h c_11
        refine lv_iconst (v := 0) hx hb dX0_hasFact_24 (by decide) ?_
        exact W.zret (ty := .boolean) hx hb hr rfl (fun t ht _ => ⟨_, rfl, h, ht⟩) (fun q hq => by cases hq) dX0_hasFact_25
      · have h := br2 h c_11
        refine lv_iload_n hx hb dX0_hasFact_14 rfl (lv_at hl 1 rfl) ?_
        refine lv_bipush (v := 7) hx hb dX0_hasFact_15 (by decide) ?_
        refine lv_icmp_ge (tgt := 24) hx hb dX0_hasFact_17 (by decide) (fun c_17 => ?_) (fun c_17 => ?_)
        · have h := br1 h c_17
          refine lv_iconst (v := 0) hx hb dX0_hasFact_24 (by decide) ?_
          exact W.zret (ty := .boolean) hx hb hr rfl (fun t ht _ => ⟨_, rfl, h, ht⟩) (fun q hq => by cases hq) dX0_hasFact_25
        · have h := br2 h c_17
          refine lv_iconst (v := 1) hx hb dX0_hasFact_20 (by decide) ?_
          refine lv_goto (tgt := 25) hx hb dX0_hasFact_21 (by decide) ?_
          exact W.zret (ty := .boolean) hx hb hr rfl (fun t ht _ => ⟨_, rfl, h, ht⟩) (fun q hq => by cases hq) dX0_hasFact_25
set_option maxHeartbeats 4000000 in
set_option maxRecDepth 100000 in
theorem c_X0_quotientCutUp (l : Launch) {x0 : Int32} {x1 : Int32} {post : Int32 → Prop} (h : P_X0_quotientCutUp x0 x1 post) : Met l yX0_quotientCutUp wsX0_quotientCutUp ({ frames := 0, cells := 0, slots := 0, locals := 0 } : Room) (va_Pc [.int x0, .int x1] (fun _ => True)) (vp_Si post) 0 0 (fun _ => False) := by
  refine Met.ofW (cc := cX0_quotientCutUp) (maxL := 2) (ret := (some .int)) (by decide) rfl ?_
  intro p e s m args below meth c s₁ B hml hv
  obtain ⟨rfl, -⟩ := hv
  have hx := B.exec
  have hb := B.bytes
  have hr := B.returns
  have hts := atoms_spec (ws := wsX0_quotientCutUp) B.pre
  have hown : s.vm.findClass RX0 = some m.cls := findClass_of_methodNamed B.named
  have hlocks := B.notSynchronized
  have hl := lv_entry ([.int x0, .int x1]) (n := 2) (Nat.le_of_ble_eq_true rfl)
  rw [lg_entry_eq]
  generalize (lg_sl ([.int x0, .int x1]) ++ List.replicate (2 - (lg_sl ([.int x0, .int x1])).length) Slot.unset).toArray = ls at hl ⊢
  have hl : lv_has ls 2 [(0, .int x0), (1, .int x1)] := hl
  unfold P_X0_quotientCutUp at h
  refine lv_iload_n hx hb dX0_quotientCutUp_0 rfl (lv_at hl 1 rfl) ?_
  refine lv_iconst (v := 1) hx hb dX0_quotientCutUp_1 (by decide) ?_
  refine lv_icmp_ge (tgt := 9) hx hb dX0_quotientCutUp_2 (by decide) (fun c_2 => ?_) (fun c_2 => ?_)
  · have h := br1 h c_2
    refine lv_iload_n hx hb dX0_quotientCutUp_9 rfl (lv_at hl 0 rfl) ?_
    refine lv_iload_n hx hb dX0_quotientCutUp_10 rfl (lv_at hl 1 rfl) ?_
    refine lv_iadd hx hb dX0_quotientCutUp_11 ?_
    refine lv_iconst (v := 1) hx hb dX0_quotientCutUp_12 (by decide) ?_
    refine lv_isub hx hb dX0_quotientCutUp_13 ?_
    refine lv_iload_n hx hb dX0_quotientCutUp_14 rfl (lv_at hl 1 rfl) ?_
    obtain ⟨hn, h⟩ := h
    refine lv_idiv hx hb dX0_quotientCutUp_15 hn ?_
    exact W.iret hx hb hr (fun t ht _ => ⟨_, rfl, h, ht⟩) (fun q hq => by cases hq) dX0_quotientCutUp_16
  · have h := br2 h c_2
    refine lv_iconst (v := 0) hx hb dX0_quotientCutUp_5 (by decide) ?_
    refine lv_goto (tgt := 16) hx hb dX0_quotientCutUp_6 (by decide) ?_
    exact W.iret hx hb hr (fun t ht _ => ⟨_, rfl, h, ht⟩) (fun q hq => by cases hq) dX0_quotientCutUp_16
set_option maxHeartbeats 4000000 in
set_option maxRecDepth 100000 in
theorem c_X1_hasBit (l : Launch) {x0 : Int32} {x1 : Int32} {post : Int32 → Prop} (h : P_X1_hasBit x0 x1 post) : Met l yX1_hasBit wsX1_hasBit ({ frames := 0, cells := 0, slots := 0, locals := 0 } : Room) (va_Pc [.int x0, .int x1] (fun _ => True)) (vp_Si post) 0 0 (fun _ => False) := by
  refine Met.ofW (cc := cX1_hasBit) (maxL := 2) (ret := (some .boolean)) (by decide) rfl ?_
  intro p e s m args below meth c s₁ B hml hv
  obtain ⟨rfl, -⟩ := hv
  have hx := B.exec
  have hb := B.bytes
  have hr := B.returns
  have hts := atoms_spec (ws := wsX1_hasBit) B.pre
  have hown : s.vm.findClass RX1 = some m.cls := findClass_of_methodNamed B.named
  have hlocks := B.notSynchronized
  have hl := lv_entry ([.int x0, .int x1]) (n := 2) (Nat.le_of_ble_eq_true rfl)
  rw [lg_entry_eq]
  generalize (lg_sl ([.int x0, .int x1]) ++ List.replicate (2 - (lg_sl ([.int x0, .int x1])).length) Slot.unset).toArray = ls at hl ⊢
  have hl : lv_has ls 2 [(0, .int x0), (1, .int x1)] := hl
  unfold P_X1_hasBit at h
  refine lv_iload_n hx hb dX1_hasBit_0 rfl (lv_at hl 1 rfl) ?_
  refine lv_if_lt (tgt := 23) hx hb dX1_hasBit_1 (by decide) (fun c_1 => ?_) (fun c_1 => ?_)
  · have h := br1 h c_1
    refine lv_iconst (v := 0) hx hb dX1_hasBit_23 (by decide) ?_
    exact W.zret (ty := .boolean) hx hb hr rfl (fun t ht _ => ⟨_, rfl, h, ht⟩) (fun q hq => by cases hq) dX1_hasBit_24
  · have h := br2 h c_1
    refine lv_iload_n hx hb dX1_hasBit_4 rfl (lv_at hl 1 rfl) ?_
    refine lv_bipush (v := 8) hx hb dX1_hasBit_5 (by decide) ?_
    refine lv_icmp_ge (tgt := 23) hx hb dX1_hasBit_7 (by decide) (fun c_7 => ?_) (fun c_7 => ?_)
    · have h := br1 h c_7
      refine lv_iconst (v := 0) hx hb dX1_hasBit_23 (by decide) ?_
      exact W.zret (ty := .boolean) hx hb hr rfl (fun t ht _ => ⟨_, rfl, h, ht⟩) (fun q hq => by cases hq) dX1_hasBit_24
    · have h := br2 h c_7
      refine lv_iload_n hx hb dX1_hasBit_10 rfl (lv_at hl 0 rfl) ?_
      refine lv_iload_n hx hb dX1_hasBit_11 rfl (lv_at hl 1 rfl) ?_
      refine lv_ishr hx hb dX1_hasBit_12 ?_
      refine lv_iconst (v := 1) hx hb dX1_hasBit_13 (by decide) ?_
      refine lv_iand hx hb dX1_hasBit_14 ?_
      refine lv_iconst (v := 1) hx hb dX1_hasBit_15 (by decide) ?_
      refine lv_icmp_ne (tgt := 23) hx hb dX1_hasBit_16 (by decide) (fun c_16 => ?_) (fun c_16 => ?_)
      · have h := br2 h c_16
        refine lv_iconst (v := 0) hx hb dX1_hasBit_23 (by decide) ?_
        exact W.zret (ty := .boolean) hx hb hr rfl (fun t ht _ => ⟨_, rfl, h, ht⟩) (fun q hq => by cases hq) dX1_hasBit_24
      · have h := br1 h c_16
        refine lv_iconst (v := 1) hx hb dX1_hasBit_19 (by decide) ?_
        refine lv_goto (tgt := 24) hx hb dX1_hasBit_20 (by decide) ?_
        exact W.zret (ty := .boolean) hx hb hr rfl (fun t ht _ => ⟨_, rfl, h, ht⟩) (fun q hq => by cases hq) dX1_hasBit_24
set_option maxHeartbeats 4000000 in
set_option maxRecDepth 100000 in
theorem c_X1_bitsBetween (l : Launch) {x0 : Int32} {x1 : Int32} {post : Int32 → Prop} (h : P_X1_bitsBetween x0 x1 post) : Met l yX1_bitsBetween wsX1_bitsBetween ({ frames := 1, cells := 0, slots := 0, locals := 21 } : Room) (va_Pc [.int x0, .int x1] (fun _ => True)) (vp_Si post) 0 0 (fun _ => False) := by
  refine Met.ofW (cc := cX1_bitsBetween) (maxL := 4) (ret := (some .int)) (by decide) rfl ?_
  intro p e s m args below meth c s₁ B hml hv
  obtain ⟨rfl, -⟩ := hv
  have hx := B.exec
  have hb := B.bytes
  have hr := B.returns
  have hts := atoms_spec (ws := wsX1_bitsBetween) B.pre
  have hown : s.vm.findClass RX1 = some m.cls := findClass_of_methodNamed B.named
  have hlocks := B.notSynchronized
  have hl := lv_entry ([.int x0, .int x1]) (n := 4) (Nat.le_of_ble_eq_true rfl)
  rw [lg_entry_eq]
  generalize (lg_sl ([.int x0, .int x1]) ++ List.replicate (4 - (lg_sl ([.int x0, .int x1])).length) Slot.unset).toArray = ls at hl ⊢
  have hl : lv_has ls 4 [(0, .int x0), (1, .int x1)] := hl
  have k_M11_0 := hts (.methodLink RX1 11 Lib.Math.max.name) (by decide +kernel)
  have k_M11_1 := hts (.static Lib.Math.max.name) (by decide +kernel)
  have k_M11_2 := hts (.initialized "java/lang/Math") (by decide +kernel)
  have k_M11_3 := hts (.code Lib.Math.max.name Lib.Math.max.code 2 (some .int)) (by decide +kernel)
  have k_M17_0 := hts (.methodLink RX1 17 Lib.Math.min.name) (by decide +kernel)
  have k_M17_1 := hts (.static Lib.Math.min.name) (by decide +kernel)
  have k_M17_2 := hts (.initialized "java/lang/Math") (by decide +kernel)
  have k_M17_3 := hts (.code Lib.Math.min.name Lib.Math.min.code 2 (some .int)) (by decide +kernel)
  unfold P_X1_bitsBetween at h
  refine lv_iconst (v := 0) hx hb dX1_bitsBetween_0 (by decide) ?_
  refine lv_istore_n (lv' := [(2, .int (0 : Int32)), (0, .int x0), (1, .int x1)]) hx hb dX1_bitsBetween_1 rfl hl (by decide) rfl (fun ls hl => ?_)
  refine lv_iload_n hx hb dX1_bitsBetween_2 rfl (lv_at hl 1 rfl) ?_
  refine lv_iconst (v := 0) hx hb dX1_bitsBetween_3 (by decide) ?_
  refine va_mmax hx hb (hml.trans hl.1.symm) hown k_M11_0 k_M11_1 k_M11_2 k_M11_3 (Nat.le_of_ble_eq_true rfl) (Nat.le_of_ble_eq_true rfl) (Nat.zero_le _) (Nat.zero_le _) dX1_bitsBetween_4 ?_
  refine lv_topi (fun y_1 ey_1 => ?_)
  have h := h y_1 ey_1
  refine lv_istore_n (lv' := [(3, .int y_1), (2, .int (0 : Int32)), (0, .int x0), (1, .int x1)]) hx hb dX1_bitsBetween_7 rfl hl (by decide) rfl (fun ls hl => ?_)
  obtain ⟨K_8, hKi_8, h⟩ := jnE1 h
  have hK_8 : ∀ (v2_6 : Int32), K_8 v2_6 → ∀ (ls : Array Slot), lv_has ls 4 [(2, .int v2_6)] → W p l e (headSpec wsX1_bitsBetween ({ frames := 1, cells := 0, slots := 0, locals := 21 } : Room)).room s m ([.int x0, .int x1] : List Value).toArray below meth c s.heap [] 0 0 (MQ below (vp_Si post) ([.int x0, .int x1] : List Value).toArray s 0 0 (fun _ => False)) (F0 m 30 ls []) := by
    intro v2_6 h ls hl
    have h := hKi_8 _ h
    refine lv_iload_n hx hb dX1_bitsBetween_30 rfl (lv_at hl 0 rfl) ?_
    exact W.iret hx hb hr (fun t ht _ => ⟨_, rfl, h, ht⟩) (fun q hq => by cases hq) dX1_bitsBetween_31
  obtain ⟨n, h⟩ := h
  have loop_8 : ∀ (n : Nat) (v2_2 : Int32) (v3_3 : Int32), L_X1_bitsBetween_8 post K_8 x1 n v2_2 v3_3 → ∀ (ls : Array Slot), lv_has ls 4 [(1, .int x1), (2, .int v2_2), (3, .int v3_3)] → W p l e (headSpec wsX1_bitsBetween ({ frames := 1, cells := 0, slots := 0, locals := 21 } : Room)).room s m ([.int x0, .int x1] : List Value).toArray below meth c s.heap [] 0 0 (MQ below (vp_Si post) ([.int x0, .int x1] : List Value).toArray s 0 0 (fun _ => False)) (F0 m 8 ls []) := by
    intro n
    induction n with
    | zero => intro v2_2 v3_3 h; rw [L_X1_bitsBetween_8] at h; exact h.elim
    | succ n ih_8 =>
      intro v2_2 v3_3 h ls hl
      rw [L_X1_bitsBetween_8] at h
      refine lv_iload_n hx hb dX1_bitsBetween_8 rfl (lv_at hl 2 rfl) ?_
      refine lv_iload_n hx hb dX1_bitsBetween_9 rfl (lv_at hl 0 rfl) ?_
      refine lv_bipush (v := 8) hx hb dX1_bitsBetween_10 (by decide) ?_
      refine va_mmin hx hb (hml.trans hl.1.symm) hown k_M17_0 k_M17_1 k_M17_2 k_M17_3 (Nat.le_of_ble_eq_true rfl) (Nat.le_of_ble_eq_true rfl) (Nat.zero_le _) (Nat.zero_le _) dX1_bitsBetween_12 ?_
      refine lv_icmp_ge (tgt := 30) hx hb dX1_bitsBetween_15 (by decide) (fun c_15 => ?_) (fun c_15 => ?_)
      · have h := br1 h c_15
        exact hK_8 _ h _ (lv_sub hl [1] rfl)
      · have h := br2 h c_15
        refine lv_iload_n hx hb dX1_bitsBetween_18 rfl (lv_at hl 1 rfl) ?_
        refine lv_iconst (v := 1) hx hb dX1_bitsBetween_19 (by decide) ?_
        refine lv_iload_n hx hb dX1_bitsBetween_20 rfl (lv_at hl 2 rfl) ?_
        refine lv_ishl hx hb dX1_bitsBetween_21 ?_
        refine lv_ior hx hb dX1_bitsBetween_22 ?_
        refine lv_topi (fun y_4 ey_4 => ?_)
        have h := h y_4 ey_4
        refine lv_istore_n (lv' := [(2, .int y_4), (1, .int x1), (3, .int v3_3)]) hx hb dX1_bitsBetween_23 rfl hl (by decide) rfl (fun ls hl => ?_)
        obtain ⟨y_5, ey_5⟩ : ∃ z : Int32, z = v3_3 + (1 : Int32) := ⟨_, rfl⟩
        have h := h y_5 ey_5
        refine lv_iinc (v := y_5) (lv' := [(3, .int y_5), (2, .int y_4), (1, .int x1)]) hx hb dX1_bitsBetween_24 hl (k := 2) rfl (by rw [ey_5]; rfl) (by decide) rfl (fun ls hl => ?_)
        refine lv_goto (tgt := 8) hx hb dX1_bitsBetween_27 (by decide) ?_
        exact ih_8 _ _ h _ (lv_sub hl [2, 1, 0] rfl)
  exact loop_8 n _ _ h _ (lv_sub hl [3, 1, 0] rfl)
set_option maxHeartbeats 4000000 in
set_option maxRecDepth 100000 in
theorem c_X1_beginsRun (l : Launch) {x0 : Int32} {x1 : Int32} {post : Int32 → Prop} (h : P_X1_beginsRun x0 x1 post) : Met l yX1_beginsRun wsX1_beginsRun ({ frames := 1, cells := 0, slots := 0, locals := 21 } : Room) (va_Pc [.int x0, .int x1] (fun _ => True)) (vp_Si post) 0 0 (fun _ => False) := by
  refine Met.ofW (cc := cX1_beginsRun) (maxL := 2) (ret := (some .boolean)) (by decide) rfl ?_
  intro p e s m args below meth c s₁ B hml hv
  obtain ⟨rfl, -⟩ := hv
  have hx := B.exec
  have hb := B.bytes
  have hr := B.returns
  have hts := atoms_spec (ws := wsX1_beginsRun) B.pre
  have hown : s.vm.findClass RX1 = some m.cls := findClass_of_methodNamed B.named
  have hlocks := B.notSynchronized
  have hl := lv_entry ([.int x0, .int x1]) (n := 2) (Nat.le_of_ble_eq_true rfl)
  rw [lg_entry_eq]
  generalize (lg_sl ([.int x0, .int x1]) ++ List.replicate (2 - (lg_sl ([.int x0, .int x1])).length) Slot.unset).toArray = ls at hl ⊢
  have hl : lv_has ls 2 [(0, .int x0), (1, .int x1)] := hl
  unfold P_X1_beginsRun at h
  refine lv_iload_n hx hb dX1_beginsRun_0 rfl (lv_at hl 0 rfl) ?_
  refine lv_iload_n hx hb dX1_beginsRun_1 rfl (lv_at hl 1 rfl) ?_
  refine vp_callSi (W.runS (As := [.int _, .int _]) (rest := []) ⟨hx, hb, hml, hown, hts⟩ (c_X1_hasBit l h) (va_cwS 2 hts gX1_beginsRun_X1_hasBit rfl rfl rfl (by decide +kernel) ⟨Nat.le_of_ble_eq_true rfl, Nat.le_of_ble_eq_true rfl⟩) ⟨fun _ _ _ _ q => q, fun _ _ _ => ⟨rfl, trivial⟩⟩ rfl rfl hl.1 rfl (lv_room (Nat.le_of_ble_eq_true rfl)) dX1_beginsRun_2 ⟨Nat.zero_le _, Nat.zero_le _⟩) (fun r_1 h => ?_)
  refine lv_if_eq (tgt := 22) hx hb dX1_beginsRun_5 (by decide) (fun c_5 => ?_) (fun c_5 => ?_)
  · have h := br1 h c_5
    refine lv_iconst (v := 0) hx hb dX1_beginsRun_22 (by decide) ?_
    exact W.zret (ty := .boolean) hx hb hr rfl (fun t ht _ => ⟨_, rfl, h, ht⟩) (fun q hq => by cases hq) dX1_beginsRun_23
  · have h := br2 h c_5
    refine lv_iload_n hx hb dX1_beginsRun_8 rfl (lv_at hl 0 rfl) ?_
    refine lv_iload_n hx hb dX1_beginsRun_9 rfl (lv_at hl 1 rfl) ?_
    refine lv_iconst (v := 1) hx hb dX1_beginsRun_10 (by decide) ?_
    refine lv_isub hx hb dX1_beginsRun_11 ?_
    refine vp_callSi (W.runS (As := [.int _, .int _]) (rest := []) ⟨hx, hb, hml, hown, hts⟩ (c_X1_hasBit l h) (va_cwS 2 hts gX1_beginsRun_X1_hasBit rfl rfl rfl (by decide +kernel) ⟨Nat.le_of_ble_eq_true rfl, Nat.le_of_ble_eq_true rfl⟩) ⟨fun _ _ _ _ q => q, fun _ _ _ => ⟨rfl, trivial⟩⟩ rfl rfl hl.1 rfl (lv_room (Nat.le_of_ble_eq_true rfl)) dX1_beginsRun_12 ⟨Nat.zero_le _, Nat.zero_le _⟩) (fun r_2 h => ?_)
    refine lv_if_ne (tgt := 22) hx hb dX1_beginsRun_15 (by decide) (fun c_15 => ?_) (fun c_15 => ?_)
    · have h := br2 h c_15
      refine lv_iconst (v := 0) hx hb dX1_beginsRun_22 (by decide) ?_
      exact W.zret (ty := .boolean) hx hb hr rfl (fun t ht _ => ⟨_, rfl, h, ht⟩) (fun q hq => by cases hq) dX1_beginsRun_23
    · have h := br1 h c_15
      refine lv_iconst (v := 1) hx hb dX1_beginsRun_18 (by decide) ?_
      refine lv_goto (tgt := 23) hx hb dX1_beginsRun_19 (by decide) ?_
      exact W.zret (ty := .boolean) hx hb hr rfl (fun t ht _ => ⟨_, rfl, h, ht⟩) (fun q hq => by cases hq) dX1_beginsRun_23
set_option maxHeartbeats 4000000 in
set_option maxRecDepth 100000 in
theorem c_J6_bitCount_0f7a4 (l : Launch) {x0 : Int32} {post : Int32 → Prop} (h : P_J6_bitCount_0f7a4 x0 post) : Met l yJ6_bitCount_0f7a4 wsJ6_bitCount_0f7a4 ({ frames := 0, cells := 0, slots := 0, locals := 0 } : Room) (va_Pc [.int x0] (fun _ => True)) (vp_Si post) 0 0 (fun _ => False) := by
  refine Met.ofW (cc := cJ6_bitCount_0f7a4) (maxL := 1) (ret := (some .int)) (by decide) rfl ?_
  intro p e s m args below meth c s₁ B hml hv
  obtain ⟨rfl, -⟩ := hv
  have hx := B.exec
  have hb := B.bytes
  have hr := B.returns
  have hts := atoms_spec (ws := wsJ6_bitCount_0f7a4) B.pre
  have hown : s.vm.findClass RJ6 = some m.cls := findClass_of_methodNamed B.named
  have hlocks := B.notSynchronized
  have hl := lv_entry ([.int x0]) (n := 1) (Nat.le_of_ble_eq_true rfl)
  rw [lg_entry_eq]
  generalize (lg_sl ([.int x0]) ++ List.replicate (1 - (lg_sl ([.int x0])).length) Slot.unset).toArray = ls at hl ⊢
  have hl : lv_has ls 1 [(0, .int x0)] := hl
  have k_265 := hts (.constant RJ6 265 (1431655765)) (by decide +kernel)
  have k_266 := hts (.constant RJ6 266 (858993459)) (by decide +kernel)
  have k_267 := hts (.constant RJ6 267 (252645135)) (by decide +kernel)
  unfold P_J6_bitCount_0f7a4 at h
  refine lv_iload_n hx hb dJ6_bitCount_0f7a4_0 rfl (lv_at hl 0 rfl) ?_
  refine lv_iload_n hx hb dJ6_bitCount_0f7a4_1 rfl (lv_at hl 0 rfl) ?_
  refine lv_iconst (v := 1) hx hb dJ6_bitCount_0f7a4_2 (by decide) ?_
  refine lv_iushr hx hb dJ6_bitCount_0f7a4_3 rfl ?_
  refine lv_ldcw hx hb hown k_265 dJ6_bitCount_0f7a4_4 ?_
  refine lv_iand hx hb dJ6_bitCount_0f7a4_7 ?_
  refine lv_isub hx hb dJ6_bitCount_0f7a4_8 ?_
  refine lv_topi (fun y_1 ey_1 => ?_)
  have h := h y_1 ey_1
  refine lv_istore_n (lv' := [(0, .int y_1)]) hx hb dJ6_bitCount_0f7a4_9 rfl hl (by decide) rfl (fun ls hl => ?_)
  refine lv_iload_n hx hb dJ6_bitCount_0f7a4_10 rfl (lv_at hl 0 rfl) ?_
  refine lv_ldcw hx hb hown k_266 dJ6_bitCount_0f7a4_11 ?_
  refine lv_iand hx hb dJ6_bitCount_0f7a4_14 ?_
  refine lv_iload_n hx hb dJ6_bitCount_0f7a4_15 rfl (lv_at hl 0 rfl) ?_
  refine lv_iconst (v := 2) hx hb dJ6_bitCount_0f7a4_16 (by decide) ?_
  refine lv_iushr hx hb dJ6_bitCount_0f7a4_17 rfl ?_
  refine lv_ldcw hx hb hown k_266 dJ6_bitCount_0f7a4_18 ?_
  refine lv_iand hx hb dJ6_bitCount_0f7a4_21 ?_
  refine lv_iadd hx hb dJ6_bitCount_0f7a4_22 ?_
  refine lv_topi (fun y_2 ey_2 => ?_)
  have h := h y_2 ey_2
  refine lv_istore_n (lv' := [(0, .int y_2)]) hx hb dJ6_bitCount_0f7a4_23 rfl hl (by decide) rfl (fun ls hl => ?_)
  refine lv_iload_n hx hb dJ6_bitCount_0f7a4_24 rfl (lv_at hl 0 rfl) ?_
  refine lv_iload_n hx hb dJ6_bitCount_0f7a4_25 rfl (lv_at hl 0 rfl) ?_
  refine lv_iconst (v := 4) hx hb dJ6_bitCount_0f7a4_26 (by decide) ?_
  refine lv_iushr hx hb dJ6_bitCount_0f7a4_27 rfl ?_
  refine lv_iadd hx hb dJ6_bitCount_0f7a4_28 ?_
  refine lv_ldcw hx hb hown k_267 dJ6_bitCount_0f7a4_29 ?_
  refine lv_iand hx hb dJ6_bitCount_0f7a4_32 ?_
  refine lv_topi (fun y_3 ey_3 => ?_)
  have h := h y_3 ey_3
  refine lv_istore_n (lv' := [(0, .int y_3)]) hx hb dJ6_bitCount_0f7a4_33 rfl hl (by decide) rfl (fun ls hl => ?_)
  refine lv_iload_n hx hb dJ6_bitCount_0f7a4_34 rfl (lv_at hl 0 rfl) ?_
  refine lv_iload_n hx hb dJ6_bitCount_0f7a4_35 rfl (lv_at hl 0 rfl) ?_
  refine lv_bipush (v := 8) hx hb dJ6_bitCount_0f7a4_36 (by decide) ?_
  refine lv_iushr hx hb dJ6_bitCount_0f7a4_38 rfl ?_
  refine lv_iadd hx hb dJ6_bitCount_0f7a4_39 ?_
  refine lv_topi (fun y_4 ey_4 => ?_)
  have h := h y_4 ey_4
  refine lv_istore_n (lv' := [(0, .int y_4)]) hx hb dJ6_bitCount_0f7a4_40 rfl hl (by decide) rfl (fun ls hl => ?_)
  refine lv_iload_n hx hb dJ6_bitCount_0f7a4_41 rfl (lv_at hl 0 rfl) ?_
  refine lv_iload_n hx hb dJ6_bitCount_0f7a4_42 rfl (lv_at hl 0 rfl) ?_
  refine lv_bipush (v := 16) hx hb dJ6_bitCount_0f7a4_43 (by decide) ?_
  refine lv_iushr hx hb dJ6_bitCount_0f7a4_45 rfl ?_
  refine lv_iadd hx hb dJ6_bitCount_0f7a4_46 ?_
  refine lv_topi (fun y_5 ey_5 => ?_)
  have h := h y_5 ey_5
  refine lv_istore_n (lv' := [(0, .int y_5)]) hx hb dJ6_bitCount_0f7a4_47 rfl hl (by decide) rfl (fun ls hl => ?_)
  refine lv_iload_n hx hb dJ6_bitCount_0f7a4_48 rfl (lv_at hl 0 rfl) ?_
  refine lv_bipush (v := 63) hx hb dJ6_bitCount_0f7a4_49 (by decide) ?_
  refine lv_iand hx hb dJ6_bitCount_0f7a4_51 ?_
  exact W.iret hx hb hr (fun t ht _ => ⟨_, rfl, h, ht⟩) (fun q hq => by cases hq) dJ6_bitCount_0f7a4_52
set_option maxHeartbeats 4000000 in
set_option maxRecDepth 100000 in
theorem c_X1_runCount (l : Launch) {x0 : Int32} {post : Int32 → Prop} (h : P_X1_runCount x0 post) : Met l yX1_runCount wsX1_runCount ({ frames := 1, cells := 0, slots := 0, locals := 20 } : Room) (va_Pc [.int x0] (fun _ => True)) (vp_Si post) 0 0 (fun _ => False) := by
  refine Met.ofW (cc := cX1_runCount) (maxL := 1) (ret := (some .int)) (by decide) rfl ?_
  intro p e s m args below meth c s₁ B hml hv
  obtain ⟨rfl, -⟩ := hv
  have hx := B.exec
  have hb := B.bytes
  have hr := B.returns
  have hts := atoms_spec (ws := wsX1_runCount) B.pre
  have hown : s.vm.findClass RX1 = some m.cls := findClass_of_methodNamed B.named
  have hlocks := B.notSynchronized
  have hl := lv_entry ([.int x0]) (n := 1) (Nat.le_of_ble_eq_true rfl)
  rw [lg_entry_eq]
  generalize (lg_sl ([.int x0]) ++ List.replicate (1 - (lg_sl ([.int x0])).length) Slot.unset).toArray = ls at hl ⊢
  have hl : lv_has ls 1 [(0, .int x0)] := hl
  unfold P_X1_runCount at h
  refine lv_iload_n hx hb dX1_runCount_0 rfl (lv_at hl 0 rfl) ?_
  refine lv_iload_n hx hb dX1_runCount_1 rfl (lv_at hl 0 rfl) ?_
  refine lv_iconst (v := 1) hx hb dX1_runCount_2 (by decide) ?_
  refine lv_ishl hx hb dX1_runCount_3 ?_
  refine lv_iconst (v := (-1)) hx hb dX1_runCount_4 (by decide) ?_
  refine lv_ixor hx hb dX1_runCount_5 ?_
  refine lv_iand hx hb dX1_runCount_6 ?_
  refine vp_callSi (W.runS (As := [.int _]) (rest := []) ⟨hx, hb, hml, hown, hts⟩ (c_J6_bitCount_0f7a4 l h) (va_cwS 1 hts gX1_runCount_J6_bitCount_0f7a4 rfl rfl rfl (by decide +kernel) ⟨Nat.le_of_ble_eq_true rfl, Nat.le_of_ble_eq_true rfl⟩) ⟨fun _ _ _ _ q => q, fun _ _ _ => ⟨rfl, trivial⟩⟩ rfl rfl hl.1 rfl (lv_room (Nat.le_of_ble_eq_true rfl)) dX1_runCount_7 ⟨Nat.zero_le _, Nat.zero_le _⟩) (fun r_1 h => ?_)
  exact W.iret hx hb hr (fun t ht _ => ⟨_, rfl, h, ht⟩) (fun q hq => by cases hq) dX1_runCount_10
set_option maxHeartbeats 4000000 in
set_option maxRecDepth 100000 in
theorem c_X1_runLength (l : Launch) {x0 : Int32} {x1 : Int32} {post : Int32 → Prop} (h : P_X1_runLength x0 x1 post) : Met l yX1_runLength wsX1_runLength ({ frames := 1, cells := 0, slots := 0, locals := 21 } : Room) (va_Pc [.int x0, .int x1] (fun _ => True)) (vp_Si post) 0 0 (fun _ => False) := by
  refine Met.ofW (cc := cX1_runLength) (maxL := 3) (ret := (some .int)) (by decide) rfl ?_
  intro p e s m args below meth c s₁ B hml hv
  obtain ⟨rfl, -⟩ := hv
  have hx := B.exec
  have hb := B.bytes
  have hr := B.returns
  have hts := atoms_spec (ws := wsX1_runLength) B.pre
  have hown : s.vm.findClass RX1 = some m.cls := findClass_of_methodNamed B.named
  have hlocks := B.notSynchronized
  have hl := lv_entry ([.int x0, .int x1]) (n := 3) (Nat.le_of_ble_eq_true rfl)
  rw [lg_entry_eq]
  generalize (lg_sl ([.int x0, .int x1]) ++ List.replicate (3 - (lg_sl ([.int x0, .int x1])).length) Slot.unset).toArray = ls at hl ⊢
  have hl : lv_has ls 3 [(0, .int x0), (1, .int x1)] := hl
  unfold P_X1_runLength at h
  refine lv_iconst (v := 0) hx hb dX1_runLength_0 (by decide) ?_
  refine lv_istore_n (lv' := [(2, .int (0 : Int32)), (0, .int x0), (1, .int x1)]) hx hb dX1_runLength_1 rfl hl (by decide) rfl (fun ls hl => ?_)
  obtain ⟨K_2, hKi_2, h⟩ := jnE1 h
  have hK_2 : ∀ (v2_4 : Int32), K_2 v2_4 → ∀ (ls : Array Slot), lv_has ls 3 [(2, .int v2_4)] → W p l e (headSpec wsX1_runLength ({ frames := 1, cells := 0, slots := 0, locals := 21 } : Room)).room s m ([.int x0, .int x1] : List Value).toArray below meth c s.heap [] 0 0 (MQ below (vp_Si post) ([.int x0, .int x1] : List Value).toArray s 0 0 (fun _ => False)) (F0 m 24 ls []) := by
    intro v2_4 h ls hl
    have h := hKi_2 _ h
    refine lv_iload_n hx hb dX1_runLength_24 rfl (lv_at hl 0 rfl) ?_
    exact W.iret hx hb hr (fun t ht _ => ⟨_, rfl, h, ht⟩) (fun q hq => by cases hq) dX1_runLength_25
  obtain ⟨n, h⟩ := h
  have loop_2 : ∀ (n : Nat) (v2_1 : Int32), L_X1_runLength_2 post K_2 x0 x1 n v2_1 → ∀ (ls : Array Slot), lv_has ls 3 [(0, .int x0), (1, .int x1), (2, .int v2_1)] → W p l e (headSpec wsX1_runLength ({ frames := 1, cells := 0, slots := 0, locals := 21 } : Room)).room s m ([.int x0, .int x1] : List Value).toArray below meth c s.heap [] 0 0 (MQ below (vp_Si post) ([.int x0, .int x1] : List Value).toArray s 0 0 (fun _ => False)) (F0 m 2 ls []) := by
    intro n
    induction n with
    | zero => intro v2_1 h; rw [L_X1_runLength_2] at h; exact h.elim
    | succ n ih_2 =>
      intro v2_1 h ls hl
      rw [L_X1_runLength_2] at h
      refine lv_iload_n hx hb dX1_runLength_2 rfl (lv_at hl 2 rfl) ?_
      refine lv_bipush (v := 8) hx hb dX1_runLength_3 (by decide) ?_
      refine lv_icmp_ge (tgt := 24) hx hb dX1_runLength_5 (by decide) (fun c_5 => ?_) (fun c_5 => ?_)
      · have h := br1 h c_5
        exact hK_2 _ h _ (lv_sub hl [2] rfl)
      · have h := br2 h c_5
        refine lv_iload_n hx hb dX1_runLength_8 rfl (lv_at hl 0 rfl) ?_
        refine lv_iload_n hx hb dX1_runLength_9 rfl (lv_at hl 1 rfl) ?_
        refine lv_iload_n hx hb dX1_runLength_10 rfl (lv_at hl 2 rfl) ?_
        refine lv_iadd hx hb dX1_runLength_11 ?_
        refine vp_callSi (W.runS (As := [.int _, .int _]) (rest := []) ⟨hx, hb, hml, hown, hts⟩ (c_X1_hasBit l h) (va_cwS 2 hts gX1_runLength_X1_hasBit rfl rfl rfl (by decide +kernel) ⟨Nat.le_of_ble_eq_true rfl, Nat.le_of_ble_eq_true rfl⟩) ⟨fun _ _ _ _ q => q, fun _ _ _ => ⟨rfl, trivial⟩⟩ rfl rfl hl.1 rfl (lv_room (Nat.le_of_ble_eq_true rfl)) dX1_runLength_12 ⟨Nat.zero_le _, Nat.zero_le _⟩) (fun r_2 h => ?_)
        refine lv_if_eq (tgt := 24) hx hb dX1_runLength_15 (by decide) (fun c_15 => ?_) (fun c_15 => ?_)
        · have h := br1 h c_15
          exact hK_2 _ h _ (lv_sub hl [2] rfl)
        · have h := br2 h c_15
          obtain ⟨y_3, ey_3⟩ : ∃ z : Int32, z = v2_1 + (1 : Int32) := ⟨_, rfl⟩
          have h := h y_3 ey_3
          refine lv_iinc (v := y_3) (lv' := [(2, .int y_3), (0, .int x0), (1, .int x1)]) hx hb dX1_runLength_18 hl (k := 2) rfl (by rw [ey_3]; rfl) (by decide) rfl (fun ls hl => ?_)
          refine lv_goto (tgt := 2) hx hb dX1_runLength_21 (by decide) ?_
          exact ih_2 _ h _ (lv_sub hl [1, 2, 0] rfl)
  exact loop_2 n _ h _ (lv_sub hl [1, 2, 0] rfl)
set_option maxHeartbeats 4000000 in
set_option maxRecDepth 100000 in
theorem c_X1_upperHalves (l : Launch) {x0 : Int32} {post : Int32 → Prop} (h : P_X1_upperHalves x0 post) : Met l yX1_upperHalves wsX1_upperHalves ({ frames := 2, cells := 0, slots := 0, locals := 44 } : Room) (va_Pc [.int x0] (fun _ => True)) (vp_Si post) 0 0 (fun _ => False) := by
  refine Met.ofW (cc := cX1_upperHalves) (maxL := 4) (ret := (some .int)) (by decide) rfl ?_
  intro p e s m args below meth c s₁ B hml hv
  obtain ⟨rfl, -⟩ := hv
  have hx := B.exec
  have hb := B.bytes
  have hr := B.returns
  have hts := atoms_spec (ws := wsX1_upperHalves) B.pre
  have hown : s.vm.findClass RX1 = some m.cls := findClass_of_methodNamed B.named
  have hlocks := B.notSynchronized
  have hl := lv_entry ([.int x0]) (n := 4) (Nat.le_of_ble_eq_true rfl)
  rw [lg_entry_eq]
  generalize (lg_sl ([.int x0]) ++ List.replicate (4 - (lg_sl ([.int x0])).length) Slot.unset).toArray = ls at hl ⊢
  have hl : lv_has ls 4 [(0, .int x0)] := hl
  unfold P_X1_upperHalves at h
  refine lv_iconst (v := 0) hx hb dX1_upperHalves_0 (by decide) ?_
  refine lv_istore_n (lv' := [(1, .int (0 : Int32)), (0, .int x0)]) hx hb dX1_upperHalves_1 rfl hl (by decide) rfl (fun ls hl => ?_)
  refine lv_iconst (v := 0) hx hb dX1_upperHalves_2 (by decide) ?_
  refine lv_istore_n (lv' := [(2, .int (0 : Int32)), (1, .int (0 : Int32)), (0, .int x0)]) hx hb dX1_upperHalves_3 rfl hl (by decide) rfl (fun ls hl => ?_)
  obtain ⟨K_4, hKi_4, h⟩ := jnE1 h
  have hK_4 : ∀ (v1_9 : Int32), K_4 v1_9 → ∀ (ls : Array Slot), lv_has ls 4 [(1, .int v1_9)] → W p l e (headSpec wsX1_upperHalves ({ frames := 2, cells := 0, slots := 0, locals := 44 } : Room)).room s m ([.int x0] : List Value).toArray below meth c s.heap [] 0 0 (MQ below (vp_Si post) ([.int x0] : List Value).toArray s 0 0 (fun _ => False)) (F0 m 46 ls []) := by
    intro v1_9 h ls hl
    have h := hKi_4 _ h
    refine lv_iload_n hx hb dX1_upperHalves_46 rfl (lv_at hl 0 rfl) ?_
    exact W.iret hx hb hr (fun t ht _ => ⟨_, rfl, h, ht⟩) (fun q hq => by cases hq) dX1_upperHalves_47
  obtain ⟨n, h⟩ := h
  have loop_4 : ∀ (n : Nat) (v1_1 : Int32) (v2_2 : Int32), L_X1_upperHalves_4 post K_4 x0 n v1_1 v2_2 → ∀ (ls : Array Slot), lv_has ls 4 [(0, .int x0), (1, .int v1_1), (2, .int v2_2)] → W p l e (headSpec wsX1_upperHalves ({ frames := 2, cells := 0, slots := 0, locals := 44 } : Room)).room s m ([.int x0] : List Value).toArray below meth c s.heap [] 0 0 (MQ below (vp_Si post) ([.int x0] : List Value).toArray s 0 0 (fun _ => False)) (F0 m 4 ls []) := by
    intro n
    induction n with
    | zero => intro v1_1 v2_2 h; rw [L_X1_upperHalves_4] at h; exact h.elim
    | succ n ih_4 =>
      intro v1_1 v2_2 h ls hl
      rw [L_X1_upperHalves_4] at h
      refine lv_iload_n hx hb dX1_upperHalves_4 rfl (lv_at hl 2 rfl) ?_
      refine lv_bipush (v := 8) hx hb dX1_upperHalves_5 (by decide) ?_
      refine lv_icmp_ge (tgt := 46) hx hb dX1_upperHalves_7 (by decide) (fun c_7 => ?_) (fun c_7 => ?_)
      · have h := br1 h c_7
        exact hK_4 _ h _ (lv_sub hl [1] rfl)
      · have h := br2 h c_7
        refine lv_iload_n hx hb dX1_upperHalves_10 rfl (lv_at hl 0 rfl) ?_
        refine lv_iload_n hx hb dX1_upperHalves_11 rfl (lv_at hl 2 rfl) ?_
        refine vp_callSi (W.runS (As := [.int _, .int _]) (rest := []) ⟨hx, hb, hml, hown, hts⟩ (c_X1_beginsRun l h) (va_cwS 2 hts gX1_upperHalves_X1_beginsRun rfl rfl rfl (by decide +kernel) ⟨Nat.le_of_ble_eq_true rfl, Nat.le_of_ble_eq_true rfl⟩) ⟨fun _ _ _ _ q => q, fun _ _ _ => ⟨rfl, trivial⟩⟩ rfl rfl hl.1 rfl (lv_room (Nat.le_of_ble_eq_true rfl)) dX1_upperHalves_12 ⟨Nat.zero_le _, Nat.zero_le _⟩) (fun r_3 h => ?_)
        obtain ⟨J_40, hJi_40, h⟩ := jnE1 h
        have hJ_40 : ∀ (v1_7 : Int32), J_40 v1_7 → ∀ (ls : Array Slot), lv_has ls 4 [(0, .int x0), (1, .int v1_7), (2, .int v2_2)] → W p l e (headSpec wsX1_upperHalves ({ frames := 2, cells := 0, slots := 0, locals := 44 } : Room)).room s m ([.int x0] : List Value).toArray below meth c s.heap [] 0 0 (MQ below (vp_Si post) ([.int x0] : List Value).toArray s 0 0 (fun _ => False)) (F0 m 40 ls []) := by
          intro v1_7 h ls hl
          have h := hJi_40 _ h
          obtain ⟨y_8, ey_8⟩ : ∃ z : Int32, z = v2_2 + (1 : Int32) := ⟨_, rfl⟩
          have h := h y_8 ey_8
          refine lv_iinc (v := y_8) (lv' := [(2, .int y_8), (0, .int x0), (1, .int v1_7)]) hx hb dX1_upperHalves_40 hl (k := 2) rfl (by rw [ey_8]; rfl) (by decide) rfl (fun ls hl => ?_)
          refine lv_goto (tgt := 4) hx hb dX1_upperHalves_43 (by decide) ?_
          exact ih_4 _ _ h _ (lv_sub hl [1, 2, 0] rfl)
        refine lv_if_eq (tgt := 40) hx hb dX1_upperHalves_15 (by decide) (fun c_15 => ?_) (fun c_15 => ?_)
        · have h := br1 h c_15
          exact hJ_40 _ h _ (lv_sub hl [0, 1, 2] rfl)
        · have h := br2 h c_15
          refine lv_iload_n hx hb dX1_upperHalves_18 rfl (lv_at hl 0 rfl) ?_
          refine lv_iload_n hx hb dX1_upperHalves_19 rfl (lv_at hl 2 rfl) ?_
          refine vp_callSi (W.runS (As := [.int _, .int _]) (rest := []) ⟨hx, hb, hml, hown, hts⟩ (c_X1_runLength l h) (va_cwS 2 hts gX1_upperHalves_X1_runLength rfl rfl rfl (by decide +kernel) ⟨Nat.le_of_ble_eq_true rfl, Nat.le_of_ble_eq_true rfl⟩) ⟨fun _ _ _ _ q => q, fun _ _ _ => ⟨rfl, trivial⟩⟩ rfl rfl hl.1 rfl (lv_room (Nat.le_of_ble_eq_true rfl)) dX1_upperHalves_20 ⟨Nat.zero_le _, Nat.zero_le _⟩) (fun r_4 h => ?_)
          refine lv_istore_n (lv' := [(3, .int r_4), (0, .int x0), (1, .int v1_1), (2, .int v2_2)]) hx hb dX1_upperHalves_23 rfl hl (by decide) rfl (fun ls hl => ?_)
          refine lv_iload_n hx hb dX1_upperHalves_24 rfl (lv_at hl 2 rfl) ?_
          refine lv_iload_n hx hb dX1_upperHalves_25 rfl (lv_at hl 3 rfl) ?_
          refine lv_iload_n hx hb dX1_upperHalves_26 rfl (lv_at hl 0 rfl) ?_
          refine lv_iadd hx hb dX1_upperHalves_27 ?_
          refine lv_iload_n hx hb dX1_upperHalves_28 rfl (lv_at hl 0 rfl) ?_
          refine lv_iconst (v := 2) hx hb dX1_upperHalves_29 (by decide) ?_
          refine lv_idiv hx hb dX1_upperHalves_30 (by decide) ?_
          refine lv_isub hx hb dX1_upperHalves_31 ?_
          refine lv_iload_n hx hb dX1_upperHalves_32 rfl (lv_at hl 3 rfl) ?_
          refine lv_iload_n hx hb dX1_upperHalves_33 rfl (lv_at hl 0 rfl) ?_
          refine lv_iadd hx hb dX1_upperHalves_34 ?_
          refine vp_callSi (W.runS (As := [.int _, .int _]) (rest := [.int _]) ⟨hx, hb, hml, hown, hts⟩ (c_X1_bitsBetween l h) (va_cwS 2 hts gX1_upperHalves_X1_bitsBetween rfl rfl rfl (by decide +kernel) ⟨Nat.le_of_ble_eq_true rfl, Nat.le_of_ble_eq_true rfl⟩) ⟨fun _ _ _ _ q => q, fun _ _ _ => ⟨rfl, trivial⟩⟩ rfl rfl hl.1 rfl (lv_room (Nat.le_of_ble_eq_true rfl)) dX1_upperHalves_35 ⟨Nat.zero_le _, Nat.zero_le _⟩) (fun r_5 h => ?_)
          refine lv_ior hx hb dX1_upperHalves_38 ?_
          refine lv_topi (fun y_6 ey_6 => ?_)
          have h := h y_6 ey_6
          refine lv_istore_n (lv' := [(1, .int y_6), (3, .int r_4), (0, .int x0), (2, .int v2_2)]) hx hb dX1_upperHalves_39 rfl hl (by decide) rfl (fun ls hl => ?_)
          exact hJ_40 _ h _ (lv_sub hl [2, 0, 3] rfl)
  exact loop_4 n _ _ h _ (lv_sub hl [2, 1, 0] rfl)
set_option maxHeartbeats 4000000 in
set_option maxRecDepth 100000 in
theorem c_X1_span (l : Launch) {x0 : Int32} {post : Int32 → Prop} (h : P_X1_span x0 post) : Met l yX1_span wsX1_span ({ frames := 1, cells := 0, slots := 0, locals := 21 } : Room) (va_Pc [.int x0] (fun _ => True)) (vp_Si post) 0 0 (fun _ => False) := by
  refine Met.ofW (cc := cX1_span) (maxL := 4) (ret := (some .int)) (by decide) rfl ?_
  intro p e s m args below meth c s₁ B hml hv
  obtain ⟨rfl, -⟩ := hv
  have hx := B.exec
  have hb := B.bytes
  have hr := B.returns
  have hts := atoms_spec (ws := wsX1_span) B.pre
  have hown : s.vm.findClass RX1 = some m.cls := findClass_of_methodNamed B.named
  have hlocks := B.notSynchronized
  have hl := lv_entry ([.int x0]) (n := 4) (Nat.le_of_ble_eq_true rfl)
  rw [lg_entry_eq]
  generalize (lg_sl ([.int x0]) ++ List.replicate (4 - (lg_sl ([.int x0])).length) Slot.unset).toArray = ls at hl ⊢
  have hl : lv_has ls 4 [(0, .int x0)] := hl
  unfold P_X1_span at h
  refine lv_iconst (v := 0) hx hb dX1_span_0 (by decide) ?_
  refine lv_istore_n (lv' := [(1, .int (0 : Int32)), (0, .int x0)]) hx hb dX1_span_1 rfl hl (by decide) rfl (fun ls hl => ?_)
  refine lv_iconst (v := 0) hx hb dX1_span_2 (by decide) ?_
  refine lv_istore_n (lv' := [(2, .int (0 : Int32)), (1, .int (0 : Int32)), (0, .int x0)]) hx hb dX1_span_3 rfl hl (by decide) rfl (fun ls hl => ?_)
  refine lv_iconst (v := 0) hx hb dX1_span_4 (by decide) ?_
  refine lv_istore_n (lv' := [(3, .int (0 : Int32)), (2, .int (0 : Int32)), (1, .int (0 : Int32)), (0, .int x0)]) hx hb dX1_span_5 rfl hl (by decide) rfl (fun ls hl => ?_)
  obtain ⟨K_6, hKi_6, h⟩ := jnE2 h
  have hK_6 : ∀ (v1_10 : Int32) (v2_11 : Int32), K_6 v1_10 v2_11 → ∀ (ls : Array Slot), lv_has ls 4 [(1, .int v1_10), (2, .int v2_11)] → W p l e (headSpec wsX1_span ({ frames := 1, cells := 0, slots := 0, locals := 21 } : Room)).room s m ([.int x0] : List Value).toArray below meth c s.heap [] 0 0 (MQ below (vp_Si post) ([.int x0] : List Value).toArray s 0 0 (fun _ => False)) (F0 m 40 ls []) := by
    intro v1_10 v2_11 h ls hl
    have h := hKi_6 _ _ h
    refine lv_iload_n hx hb dX1_span_40 rfl (lv_at hl 1 rfl) ?_
    refine lv_iload_n hx hb dX1_span_41 rfl (lv_at hl 0 rfl) ?_
    refine lv_isub hx hb dX1_span_42 ?_
    exact W.iret hx hb hr (fun t ht _ => ⟨_, rfl, h, ht⟩) (fun q hq => by cases hq) dX1_span_43
  obtain ⟨n, h⟩ := h
  have loop_6 : ∀ (n : Nat) (v1_1 : Int32) (v2_2 : Int32) (v3_3 : Int32), L_X1_span_6 post K_6 x0 n v1_1 v2_2 v3_3 → ∀ (ls : Array Slot), lv_has ls 4 [(0, .int x0), (1, .int v1_1), (2, .int v2_2), (3, .int v3_3)] → W p l e (headSpec wsX1_span ({ frames := 1, cells := 0, slots := 0, locals := 21 } : Room)).room s m ([.int x0] : List Value).toArray below meth c s.heap [] 0 0 (MQ below (vp_Si post) ([.int x0] : List Value).toArray s 0 0 (fun _ => False)) (F0 m 6 ls []) := by
    intro n
    induction n with
    | zero => intro v1_1 v2_2 v3_3 h; rw [L_X1_span_6] at h; exact h.elim
    | succ n ih_6 =>
      intro v1_1 v2_2 v3_3 h ls hl
      rw [L_X1_span_6] at h
      refine lv_iload_n hx hb dX1_span_6 rfl (lv_at hl 3 rfl) ?_
      refine lv_bipush (v := 8) hx hb dX1_span_7 (by decide) ?_
      refine lv_icmp_ge (tgt := 40) hx hb dX1_span_9 (by decide) (fun c_9 => ?_) (fun c_9 => ?_)
      · have h := br1 h c_9
        exact hK_6 _ _ h _ (lv_sub hl [1, 2] rfl)
      · have h := br2 h c_9
        refine lv_iload_n hx hb dX1_span_12 rfl (lv_at hl 0 rfl) ?_
        refine lv_iload_n hx hb dX1_span_13 rfl (lv_at hl 3 rfl) ?_
        refine vp_callSi (W.runS (As := [.int _, .int _]) (rest := []) ⟨hx, hb, hml, hown, hts⟩ (c_X1_hasBit l h) (va_cwS 2 hts gX1_span_X1_hasBit rfl rfl rfl (by decide +kernel) ⟨Nat.le_of_ble_eq_true rfl, Nat.le_of_ble_eq_true rfl⟩) ⟨fun _ _ _ _ q => q, fun _ _ _ => ⟨rfl, trivial⟩⟩ rfl rfl hl.1 rfl (lv_room (Nat.le_of_ble_eq_true rfl)) dX1_span_14 ⟨Nat.zero_le _, Nat.zero_le _⟩) (fun r_4 h => ?_)
        obtain ⟨J_34, hJi_34, h⟩ := jnE2 h
        have hJ_34 : ∀ (v1_7 : Int32) (v2_8 : Int32), J_34 v1_7 v2_8 → ∀ (ls : Array Slot), lv_has ls 4 [(0, .int x0), (1, .int v1_7), (2, .int v2_8), (3, .int v3_3)] → W p l e (headSpec wsX1_span ({ frames := 1, cells := 0, slots := 0, locals := 21 } : Room)).room s m ([.int x0] : List Value).toArray below meth c s.heap [] 0 0 (MQ below (vp_Si post) ([.int x0] : List Value).toArray s 0 0 (fun _ => False)) (F0 m 34 ls []) := by
          intro v1_7 v2_8 h ls hl
          have h := hJi_34 _ _ h
          obtain ⟨y_9, ey_9⟩ : ∃ z : Int32, z = v3_3 + (1 : Int32) := ⟨_, rfl⟩
          have h := h y_9 ey_9
          refine lv_iinc (v := y_9) (lv' := [(3, .int y_9), (0, .int x0), (1, .int v1_7), (2, .int v2_8)]) hx hb dX1_span_34 hl (k := 3) rfl (by rw [ey_9]; rfl) (by decide) rfl (fun ls hl => ?_)
          refine lv_goto (tgt := 6) hx hb dX1_span_37 (by decide) ?_
          exact ih_6 _ _ _ h _ (lv_sub hl [1, 2, 3, 0] rfl)
        refine lv_if_eq (tgt := 34) hx hb dX1_span_17 (by decide) (fun c_17 => ?_) (fun c_17 => ?_)
        · have h := br1 h c_17
          exact hJ_34 _ _ h _ (lv_sub hl [0, 1, 2, 3] rfl)
        · have h := br2 h c_17
          refine lv_iload_n hx hb dX1_span_20 rfl (lv_at hl 2 rfl) ?_
          obtain ⟨J_29, hJi_29, h⟩ := jnE1 h
          have hJ_29 : ∀ (w_5 : Int32), J_29 w_5 → ∀ (ls : Array Slot), lv_has ls 4 [(0, .int x0), (3, .int v3_3)] → W p l e (headSpec wsX1_span ({ frames := 1, cells := 0, slots := 0, locals := 21 } : Room)).room s m ([.int x0] : List Value).toArray below meth c s.heap [] 0 0 (MQ below (vp_Si post) ([.int x0] : List Value).toArray s 0 0 (fun _ => False)) (F0 m 29 ls [.int w_5]) := by
            intro w_5 h ls hl
            have h := hJi_29 _ h
            refine lv_istore_n (lv' := [(1, .int w_5), (0, .int x0), (3, .int v3_3)]) hx hb dX1_span_29 rfl hl (by decide) rfl (fun ls hl => ?_)
            refine lv_iload_n hx hb dX1_span_30 rfl (lv_at hl 2 rfl) ?_
            refine lv_iconst (v := 1) hx hb dX1_span_31 (by decide) ?_
            refine lv_iadd hx hb dX1_span_32 ?_
            refine lv_topi (fun y_6 ey_6 => ?_)
            have h := h y_6 ey_6
            refine lv_istore_n (lv' := [(2, .int y_6), (1, .int w_5), (0, .int x0), (3, .int v3_3)]) hx hb dX1_span_33 rfl hl (by decide) rfl (fun ls hl => ?_)
            exact hJ_34 _ _ h _ (lv_sub hl [2, 1, 0, 3] rfl)
          refine lv_if_ne (tgt := 28) hx hb dX1_span_21 (by decide) (fun c_21 => ?_) (fun c_21 => ?_)
          · have h := br2 h c_21
            refine lv_iload_n hx hb dX1_span_28 rfl (lv_at hl 1 rfl) ?_
            exact hJ_29 _ h _ (lv_sub hl [0, 3] rfl)
          · have h := br1 h c_21
            refine lv_iload_n hx hb dX1_span_24 rfl (lv_at hl 3 rfl) ?_
            refine lv_goto (tgt := 29) hx hb dX1_span_25 (by decide) ?_
            exact hJ_29 _ h _ (lv_sub hl [0, 3] rfl)
  exact loop_6 n _ _ _ h _ (lv_sub hl [3, 2, 1, 0] rfl)
set_option maxHeartbeats 4000000 in
set_option maxRecDepth 100000 in
theorem c_X2_neighboursOf (l : Launch) {x0 : Int64} {post : Int64 → Prop} (h : P_X2_neighboursOf x0 post) : Met l yX2_neighboursOf wsX2_neighboursOf ({ frames := 0, cells := 0, slots := 0, locals := 0 } : Room) (va_Pc [.long x0] (fun _ => True)) (vp_Sl post) 0 0 (fun _ => False) := by
  refine Met.ofW (cc := cX2_neighboursOf) (maxL := 6) (ret := (some .long)) (by decide) rfl ?_
  intro p e s m args below meth c s₁ B hml hv
  obtain ⟨rfl, -⟩ := hv
  have hx := B.exec
  have hb := B.bytes
  have hr := B.returns
  have hts := atoms_spec (ws := wsX2_neighboursOf) B.pre
  have hown : s.vm.findClass RX2 = some m.cls := findClass_of_methodNamed B.named
  have hlocks := B.notSynchronized
  have hl := lv_entry ([.long x0]) (n := 6) (Nat.le_of_ble_eq_true rfl)
  rw [lg_entry_eq]
  generalize (lg_sl ([.long x0]) ++ List.replicate (6 - (lg_sl ([.long x0])).length) Slot.unset).toArray = ls at hl ⊢
  have hl : lv_has ls 6 [(0, .long x0)] := hl
  have k_23 := hts (.constantLong RX2 23 (9187201950435737471)) (by decide +kernel)
  have k_25 := hts (.constantLong RX2 25 (-72340172838076674)) (by decide +kernel)
  unfold P_X2_neighboursOf at h
  refine lv_lload_n hx hb dX2_neighboursOf_0 rfl (lv_at hl 0 rfl) ?_
  refine lv_ldc2 hx hb hown k_23 dX2_neighboursOf_1 ?_
  refine lv_land hx hb dX2_neighboursOf_4 ?_
  refine lv_iconst (v := 1) hx hb dX2_neighboursOf_5 (by decide) ?_
  refine lv_lshl hx hb dX2_neighboursOf_6 rfl ?_
  refine lv_topl (fun y_1 ey_1 => ?_)
  have h := h y_1 ey_1
  refine lv_lstore_n (lv' := [(2, .long y_1), (0, .long x0)]) hx hb dX2_neighboursOf_7 rfl hl (by decide) rfl (fun ls hl => ?_)
  refine lv_lload_n hx hb dX2_neighboursOf_8 rfl (lv_at hl 1 rfl) ?_
  refine lv_ldc2 hx hb hown k_25 dX2_neighboursOf_9 ?_
  refine lv_land hx hb dX2_neighboursOf_12 ?_
  refine lv_iconst (v := 1) hx hb dX2_neighboursOf_13 (by decide) ?_
  refine lv_lushr hx hb dX2_neighboursOf_14 rfl ?_
  refine lv_topl (fun y_2 ey_2 => ?_)
  have h := h y_2 ey_2
  refine lv_lstore (lv' := [(4, .long y_2), (2, .long y_1), (0, .long x0)]) hx hb dX2_neighboursOf_15 hl (by decide) rfl (fun ls hl => ?_)
  refine lv_lload_n hx hb dX2_neighboursOf_17 rfl (lv_at hl 1 rfl) ?_
  refine lv_lload hx hb dX2_neighboursOf_18 (lv_at hl 0 rfl) ?_
  refine lv_lor hx hb dX2_neighboursOf_20 ?_
  refine lv_lload_n hx hb dX2_neighboursOf_21 rfl (lv_at hl 2 rfl) ?_
  refine lv_bipush (v := 8) hx hb dX2_neighboursOf_22 (by decide) ?_
  refine lv_lshl hx hb dX2_neighboursOf_24 rfl ?_
  refine lv_lor hx hb dX2_neighboursOf_25 ?_
  refine lv_lload_n hx hb dX2_neighboursOf_26 rfl (lv_at hl 2 rfl) ?_
  refine lv_bipush (v := 8) hx hb dX2_neighboursOf_27 (by decide) ?_
  refine lv_lushr hx hb dX2_neighboursOf_29 rfl ?_
  refine lv_lor hx hb dX2_neighboursOf_30 ?_
  exact W.lret hx hb hr (fun t ht _ => ⟨_, rfl, h, ht⟩) (fun q hq => by cases hq) dX2_neighboursOf_31
set_option maxHeartbeats 4000000 in
set_option maxRecDepth 100000 in
theorem c_X2_partAround (l : Launch) {x0 : Int64} {x2 : Int64} {post : Int64 → Prop} (h : P_X2_partAround x0 x2 post) : Met l yX2_partAround wsX2_partAround ({ frames := 1, cells := 0, slots := 0, locals := 25 } : Room) (va_Pc [.long x0, .long x2] (fun _ => True)) (vp_Sl post) 0 0 (fun _ => False) := by
  refine Met.ofW (cc := cX2_partAround) (maxL := 9) (ret := (some .long)) (by decide) rfl ?_
  intro p e s m args below meth c s₁ B hml hv
  obtain ⟨rfl, -⟩ := hv
  have hx := B.exec
  have hb := B.bytes
  have hr := B.returns
  have hts := atoms_spec (ws := wsX2_partAround) B.pre
  have hown : s.vm.findClass RX2 = some m.cls := findClass_of_methodNamed B.named
  have hlocks := B.notSynchronized
  have hl := lv_entry ([.long x0, .long x2]) (n := 9) (Nat.le_of_ble_eq_true rfl)
  rw [lg_entry_eq]
  generalize (lg_sl ([.long x0, .long x2]) ++ List.replicate (9 - (lg_sl ([.long x0, .long x2])).length) Slot.unset).toArray = ls at hl ⊢
  have hl : lv_has ls 9 [(0, .long x0), (2, .long x2)] := hl
  unfold P_X2_partAround at h
  refine lv_lload_n hx hb dX2_partAround_0 rfl (lv_at hl 1 rfl) ?_
  refine lv_lstore (lv' := [(4, .long x2), (0, .long x0), (2, .long x2)]) hx hb dX2_partAround_1 hl (by decide) rfl (fun ls hl => ?_)
  refine lv_iconst (v := 0) hx hb dX2_partAround_3 (by decide) ?_
  refine lv_istore (lv' := [(6, .int (0 : Int32)), (4, .long x2), (0, .long x0), (2, .long x2)]) hx hb dX2_partAround_4 hl (by decide) rfl (fun ls hl => ?_)
  obtain ⟨K_6, hKi_6, h⟩ := jnE1 h
  have hK_6 : ∀ (v4_6 : Int64), K_6 v4_6 → ∀ (ls : Array Slot), lv_has ls 9 [(4, .long v4_6)] → W p l e (headSpec wsX2_partAround ({ frames := 1, cells := 0, slots := 0, locals := 25 } : Room)).room s m ([.long x0, .long x2] : List Value).toArray below meth c s.heap [] 0 0 (MQ below (vp_Sl post) ([.long x0, .long x2] : List Value).toArray s 0 0 (fun _ => False)) (F0 m 46 ls []) := by
    intro v4_6 h ls hl
    have h := hKi_6 _ h
    refine lv_lload hx hb dX2_partAround_46 (lv_at hl 0 rfl) ?_
    exact W.lret hx hb hr (fun t ht _ => ⟨_, rfl, h, ht⟩) (fun q hq => by cases hq) dX2_partAround_48
  obtain ⟨n, h⟩ := h
  have loop_6 : ∀ (n : Nat) (v4_1 : Int64) (v6_2 : Int32), L_X2_partAround_6 post K_6 x0 n v4_1 v6_2 → ∀ (ls : Array Slot), lv_has ls 9 [(0, .long x0), (4, .long v4_1), (6, .int v6_2)] → W p l e (headSpec wsX2_partAround ({ frames := 1, cells := 0, slots := 0, locals := 25 } : Room)).room s m ([.long x0, .long x2] : List Value).toArray below meth c s.heap [] 0 0 (MQ below (vp_Sl post) ([.long x0, .long x2] : List Value).toArray s 0 0 (fun _ => False)) (F0 m 6 ls []) := by
    intro n
    induction n with
    | zero => intro v4_1 v6_2 h; rw [L_X2_partAround_6] at h; exact h.elim
    | succ n ih_6 =>
      intro v4_1 v6_2 h ls hl
      rw [L_X2_partAround_6] at h
      refine lv_iload hx hb dX2_partAround_6 (lv_at hl 2 rfl) ?_
      refine lv_bipush (v := 64) hx hb dX2_partAround_8 (by decide) ?_
      refine lv_icmp_ge (tgt := 46) hx hb dX2_partAround_10 (by decide) (fun c_10 => ?_) (fun c_10 => ?_)
      · have h := br1 h c_10
        exact hK_6 _ h _ (lv_sub hl [1] rfl)
      · have h := br2 h c_10
        refine lv_lload hx hb dX2_partAround_13 (lv_at hl 1 rfl) ?_
        refine lv_lload hx hb dX2_partAround_15 (lv_at hl 1 rfl) ?_
        refine vp_callSl (W.runS (As := [.long _]) (rest := [.long _]) ⟨hx, hb, hml, hown, hts⟩ (c_X2_neighboursOf l h) (va_cwS 1 hts gX2_partAround_X2_neighboursOf rfl rfl rfl (by decide +kernel) ⟨Nat.le_of_ble_eq_true rfl, Nat.le_of_ble_eq_true rfl⟩) ⟨fun _ _ _ _ q => q, fun _ _ _ => ⟨rfl, trivial⟩⟩ rfl rfl hl.1 rfl (lv_room (Nat.le_of_ble_eq_true rfl)) dX2_partAround_17 ⟨Nat.zero_le _, Nat.zero_le _⟩) (fun r_3 h => ?_)
        refine lv_lor hx hb dX2_partAround_20 ?_
        refine lv_lload_n hx hb dX2_partAround_21 rfl (lv_at hl 0 rfl) ?_
        refine lv_land hx hb dX2_partAround_22 ?_
        refine lv_topl (fun y_4 ey_4 => ?_)
        have h := h y_4 ey_4
        refine lv_lstore (lv' := [(7, .long y_4), (0, .long x0), (4, .long v4_1), (6, .int v6_2)]) hx hb dX2_partAround_23 hl (by decide) rfl (fun ls hl => ?_)
        refine lv_lload hx hb dX2_partAround_25 (lv_at hl 0 rfl) ?_
        refine lv_lload hx hb dX2_partAround_27 (lv_at hl 2 rfl) ?_
        refine W.lcmp hx hb dX2_partAround_29 ?_
        refine lv_if_ne (tgt := 36) hx hb dX2_partAround_30 (by decide) (fun c_30 => ?_) (fun c_30 => ?_)
        · have h := br2 h c_30
          refine lv_lload hx hb dX2_partAround_36 (lv_at hl 0 rfl) ?_
          refine lv_lstore (lv' := [(4, .long y_4), (7, .long y_4), (0, .long x0), (6, .int v6_2)]) hx hb dX2_partAround_38 hl (by decide) rfl (fun ls hl => ?_)
          obtain ⟨y_5, ey_5⟩ : ∃ z : Int32, z = v6_2 + (1 : Int32) := ⟨_, rfl⟩
          have h := h y_5 ey_5
          refine lv_iinc (v := y_5) (lv' := [(6, .int y_5), (4, .long y_4), (7, .long y_4), (0, .long x0)]) hx hb dX2_partAround_40 hl (k := 3) rfl (by rw [ey_5]; rfl) (by decide) rfl (fun ls hl => ?_)
          refine lv_goto (tgt := 6) hx hb dX2_partAround_43 (by decide) ?_
          exact ih_6 _ _ h _ (lv_sub hl [3, 1, 0] rfl)
        · have h := br1 h c_30
          refine lv_goto (tgt := 46) hx hb dX2_partAround_33 (by decide) ?_
          exact hK_6 _ h _ (lv_sub hl [2] rfl)
  exact loop_6 n _ _ h _ (lv_sub hl [2, 1, 0] rfl)
set_option maxHeartbeats 4000000 in
set_option maxRecDepth 100000 in
theorem c_X2_partsClearOf (l : Launch) {x0 : Int64} {x2 : Int64} {post : Int32 → Prop} (h : P_X2_partsClearOf x0 x2 post) : Met l yX2_partsClearOf wsX2_partsClearOf ({ frames := 2, cells := 0, slots := 0, locals := 53 } : Room) (va_Pc [.long x0, .long x2] (fun _ => True)) (vp_Si post) 0 0 (fun _ => False) := by
  refine Met.ofW (cc := cX2_partsClearOf) (maxL := 10) (ret := (some .int)) (by decide) rfl ?_
  intro p e s m args below meth c s₁ B hml hv
  obtain ⟨rfl, -⟩ := hv
  have hx := B.exec
  have hb := B.bytes
  have hr := B.returns
  have hts := atoms_spec (ws := wsX2_partsClearOf) B.pre
  have hown : s.vm.findClass RX2 = some m.cls := findClass_of_methodNamed B.named
  have hlocks := B.notSynchronized
  have hl := lv_entry ([.long x0, .long x2]) (n := 10) (Nat.le_of_ble_eq_true rfl)
  rw [lg_entry_eq]
  generalize (lg_sl ([.long x0, .long x2]) ++ List.replicate (10 - (lg_sl ([.long x0, .long x2])).length) Slot.unset).toArray = ls at hl ⊢
  have hl : lv_has ls 10 [(0, .long x0), (2, .long x2)] := hl
  have k_17 := hts (.constantLong RX2 17 (-1)) (by decide +kernel)
  unfold P_X2_partsClearOf at h
  refine lv_iconst (v := 0) hx hb dX2_partsClearOf_0 (by decide) ?_
  refine lv_istore (lv' := [(4, .int (0 : Int32)), (0, .long x0), (2, .long x2)]) hx hb dX2_partsClearOf_1 hl (by decide) rfl (fun ls hl => ?_)
  refine lv_lload_n hx hb dX2_partsClearOf_3 rfl (lv_at hl 1 rfl) ?_
  refine lv_lstore (lv' := [(5, .long x0), (4, .int (0 : Int32)), (0, .long x0), (2, .long x2)]) hx hb dX2_partsClearOf_4 hl (by decide) rfl (fun ls hl => ?_)
  refine lv_iconst (v := 0) hx hb dX2_partsClearOf_6 (by decide) ?_
  refine lv_istore (lv' := [(7, .int (0 : Int32)), (5, .long x0), (4, .int (0 : Int32)), (0, .long x0), (2, .long x2)]) hx hb dX2_partsClearOf_7 hl (by decide) rfl (fun ls hl => ?_)
  obtain ⟨K_9, hKi_9, h⟩ := jnE1 h
  have hK_9 : ∀ (v4_9 : Int32), K_9 v4_9 → ∀ (ls : Array Slot), lv_has ls 10 [(4, .int v4_9)] → W p l e (headSpec wsX2_partsClearOf ({ frames := 2, cells := 0, slots := 0, locals := 53 } : Room)).room s m ([.long x0, .long x2] : List Value).toArray below meth c s.heap [] 0 0 (MQ below (vp_Si post) ([.long x0, .long x2] : List Value).toArray s 0 0 (fun _ => False)) (F0 m 64 ls []) := by
    intro v4_9 h ls hl
    have h := hKi_9 _ h
    refine lv_iload hx hb dX2_partsClearOf_64 (lv_at hl 0 rfl) ?_
    exact W.iret hx hb hr (fun t ht _ => ⟨_, rfl, h, ht⟩) (fun q hq => by cases hq) dX2_partsClearOf_66
  obtain ⟨n, h⟩ := h
  have loop_9 : ∀ (n : Nat) (v4_1 : Int32) (v5_2 : Int64) (v7_3 : Int32), L_X2_partsClearOf_9 post K_9 x0 x2 n v4_1 v5_2 v7_3 → ∀ (ls : Array Slot), lv_has ls 10 [(0, .long x0), (2, .long x2), (4, .int v4_1), (5, .long v5_2), (7, .int v7_3)] → W p l e (headSpec wsX2_partsClearOf ({ frames := 2, cells := 0, slots := 0, locals := 53 } : Room)).room s m ([.long x0, .long x2] : List Value).toArray below meth c s.heap [] 0 0 (MQ below (vp_Si post) ([.long x0, .long x2] : List Value).toArray s 0 0 (fun _ => False)) (F0 m 9 ls []) := by
    intro n
    induction n with
    | zero => intro v4_1 v5_2 v7_3 h; rw [L_X2_partsClearOf_9] at h; exact h.elim
    | succ n ih_9 =>
      intro v4_1 v5_2 v7_3 h ls hl
      rw [L_X2_partsClearOf_9] at h
      refine lv_iload hx hb dX2_partsClearOf_9 (lv_at hl 4 rfl) ?_
      refine lv_bipush (v := 64) hx hb dX2_partsClearOf_11 (by decide) ?_
      refine lv_icmp_ge (tgt := 64) hx hb dX2_partsClearOf_13 (by decide) (fun c_13 => ?_) (fun c_13 => ?_)
      · have h := br1 h c_13
        exact hK_9 _ h _ (lv_sub hl [2] rfl)
      · have h := br2 h c_13
        refine lv_lload hx hb dX2_partsClearOf_16 (lv_at hl 3 rfl) ?_
        refine lv_lconst (v := 0) hx hb dX2_partsClearOf_18 (by decide) ?_
        refine W.lcmp hx hb dX2_partsClearOf_19 ?_
        refine lv_if_eq (tgt := 64) hx hb dX2_partsClearOf_20 (by decide) (fun c_20 => ?_) (fun c_20 => ?_)
        · have h := br1 h c_20
          exact hK_9 _ h _ (lv_sub hl [2] rfl)
        · have h := br2 h c_20
          refine lv_lload_n hx hb dX2_partsClearOf_23 rfl (lv_at hl 0 rfl) ?_
          refine lv_lload hx hb dX2_partsClearOf_24 (lv_at hl 3 rfl) ?_
          refine lv_lload hx hb dX2_partsClearOf_26 (lv_at hl 3 rfl) ?_
          refine lv_lneg hx hb dX2_partsClearOf_28 ?_
          refine lv_land hx hb dX2_partsClearOf_29 ?_
          refine vp_callSl (W.runS (As := [.long _, .long _]) (rest := []) ⟨hx, hb, hml, hown, hts⟩ (c_X2_partAround l h) (va_cwS 2 hts gX2_partsClearOf_X2_partAround rfl rfl rfl (by decide +kernel) ⟨Nat.le_of_ble_eq_true rfl, Nat.le_of_ble_eq_true rfl⟩) ⟨fun _ _ _ _ q => q, fun _ _ _ => ⟨rfl, trivial⟩⟩ rfl rfl hl.1 rfl (lv_room (Nat.le_of_ble_eq_true rfl)) dX2_partsClearOf_30 ⟨Nat.zero_le _, Nat.zero_le _⟩) (fun r_4 h => ?_)
          refine lv_lstore (lv' := [(8, .long r_4), (0, .long x0), (2, .long x2), (4, .int v4_1), (5, .long v5_2), (7, .int v7_3)]) hx hb dX2_partsClearOf_33 hl (by decide) rfl (fun ls hl => ?_)
          refine lv_lload hx hb dX2_partsClearOf_35 (lv_at hl 0 rfl) ?_
          refine lv_lload_n hx hb dX2_partsClearOf_37 rfl (lv_at hl 2 rfl) ?_
          refine lv_land hx hb dX2_partsClearOf_38 ?_
          refine lv_lconst (v := 0) hx hb dX2_partsClearOf_39 (by decide) ?_
          refine W.lcmp hx hb dX2_partsClearOf_40 ?_
          obtain ⟨J_47, hJi_47, h⟩ := jnE1 h
          have hJ_47 : ∀ (v4_6 : Int32), J_47 v4_6 → ∀ (ls : Array Slot), lv_has ls 10 [(0, .long x0), (2, .long x2), (4, .int v4_6), (5, .long v5_2), (7, .int v7_3), (8, .long r_4)] → W p l e (headSpec wsX2_partsClearOf ({ frames := 2, cells := 0, slots := 0, locals := 53 } : Room)).room s m ([.long x0, .long x2] : List Value).toArray below meth c s.heap [] 0 0 (MQ below (vp_Si post) ([.long x0, .long x2] : List Value).toArray s 0 0 (fun _ => False)) (F0 m 47 ls []) := by
            intro v4_6 h ls hl
            have h := hJi_47 _ h
            refine lv_lload hx hb dX2_partsClearOf_47 (lv_at hl 3 rfl) ?_
            refine lv_lload hx hb dX2_partsClearOf_49 (lv_at hl 5 rfl) ?_
            refine lv_ldc2 hx hb hown k_17 dX2_partsClearOf_51 ?_
            refine lv_lxor hx hb dX2_partsClearOf_54 ?_
            refine lv_land hx hb dX2_partsClearOf_55 ?_
            refine lv_topl (fun y_7 ey_7 => ?_)
            have h := h y_7 ey_7
            refine lv_lstore (lv' := [(5, .long y_7), (0, .long x0), (2, .long x2), (4, .int v4_6), (7, .int v7_3), (8, .long r_4)]) hx hb dX2_partsClearOf_56 hl (by decide) rfl (fun ls hl => ?_)
            obtain ⟨y_8, ey_8⟩ : ∃ z : Int32, z = v7_3 + (1 : Int32) := ⟨_, rfl⟩
            have h := h y_8 ey_8
            refine lv_iinc (v := y_8) (lv' := [(7, .int y_8), (5, .long y_7), (0, .long x0), (2, .long x2), (4, .int v4_6), (8, .long r_4)]) hx hb dX2_partsClearOf_58 hl (k := 4) rfl (by rw [ey_8]; rfl) (by decide) rfl (fun ls hl => ?_)
            refine lv_goto (tgt := 9) hx hb dX2_partsClearOf_61 (by decide) ?_
            exact ih_9 _ _ _ h _ (lv_sub hl [2, 3, 4, 1, 0] rfl)
          refine lv_if_ne (tgt := 47) hx hb dX2_partsClearOf_41 (by decide) (fun c_41 => ?_) (fun c_41 => ?_)
          · have h := br2 h c_41
            exact hJ_47 _ h _ (lv_sub hl [1, 2, 3, 4, 5, 0] rfl)
          · have h := br1 h c_41
            obtain ⟨y_5, ey_5⟩ : ∃ z : Int32, z = v4_1 + (1 : Int32) := ⟨_, rfl⟩
            have h := h y_5 ey_5
            refine lv_iinc (v := y_5) (lv' := [(4, .int y_5), (8, .long r_4), (0, .long x0), (2, .long x2), (5, .long v5_2), (7, .int v7_3)]) hx hb dX2_partsClearOf_44 hl (k := 3) rfl (by rw [ey_5]; rfl) (by decide) rfl (fun ls hl => ?_)
            exact hJ_47 _ h _ (lv_sub hl [2, 3, 0, 4, 5, 1] rfl)
  exact loop_9 n _ _ _ h _ (lv_sub hl [3, 4, 2, 1, 0] rfl)
set_option maxHeartbeats 4000000 in
set_option maxRecDepth 100000 in
theorem c_X2_partCount (l : Launch) {x0 : Int64} {post : Int32 → Prop} (h : P_X2_partCount x0 post) : Met l yX2_partCount wsX2_partCount ({ frames := 3, cells := 0, slots := 0, locals := 82 } : Room) (va_Pc [.long x0] (fun _ => True)) (vp_Si post) 0 0 (fun _ => False) := by
  refine Met.ofW (cc := cX2_partCount) (maxL := 2) (ret := (some .int)) (by decide) rfl ?_
  intro p e s m args below meth c s₁ B hml hv
  obtain ⟨rfl, -⟩ := hv
  have hx := B.exec
  have hb := B.bytes
  have hr := B.returns
  have hts := atoms_spec (ws := wsX2_partCount) B.pre
  have hown : s.vm.findClass RX2 = some m.cls := findClass_of_methodNamed B.named
  have hlocks := B.notSynchronized
  have hl := lv_entry ([.long x0]) (n := 2) (Nat.le_of_ble_eq_true rfl)
  rw [lg_entry_eq]
  generalize (lg_sl ([.long x0]) ++ List.replicate (2 - (lg_sl ([.long x0])).length) Slot.unset).toArray = ls at hl ⊢
  have hl : lv_has ls 2 [(0, .long x0)] := hl
  unfold P_X2_partCount at h
  refine lv_lload_n hx hb dX2_partCount_0 rfl (lv_at hl 0 rfl) ?_
  refine lv_lconst (v := 0) hx hb dX2_partCount_1 (by decide) ?_
  refine vp_callSi (W.runS (As := [.long _, .long _]) (rest := []) ⟨hx, hb, hml, hown, hts⟩ (c_X2_partsClearOf l h) (va_cwS 2 hts gX2_partCount_X2_partsClearOf rfl rfl rfl (by decide +kernel) ⟨Nat.le_of_ble_eq_true rfl, Nat.le_of_ble_eq_true rfl⟩) ⟨fun _ _ _ _ q => q, fun _ _ _ => ⟨rfl, trivial⟩⟩ rfl rfl hl.1 rfl (lv_room (Nat.le_of_ble_eq_true rfl)) dX2_partCount_2 ⟨Nat.zero_le _, Nat.zero_le _⟩) (fun r_1 h => ?_)
  exact W.iret hx hb hr (fun t ht _ => ⟨_, rfl, h, ht⟩) (fun q hq => by cases hq) dX2_partCount_5
set_option maxHeartbeats 4000000 in
set_option maxRecDepth 100000 in
theorem c_X2_shifted (l : Launch) {x0 : Int32} {x1 : Int32} {post : Int64 → Prop} (h : P_X2_shifted x0 x1 post) : Met l yX2_shifted wsX2_shifted ({ frames := 0, cells := 0, slots := 0, locals := 0 } : Room) (va_Pc [.int x0, .int x1] (fun _ => True)) (vp_Sl post) 0 0 (fun _ => False) := by
  refine Met.ofW (cc := cX2_shifted) (maxL := 2) (ret := (some .long)) (by decide) rfl ?_
  intro p e s m args below meth c s₁ B hml hv
  obtain ⟨rfl, -⟩ := hv
  have hx := B.exec
  have hb := B.bytes
  have hr := B.returns
  have hts := atoms_spec (ws := wsX2_shifted) B.pre
  have hown : s.vm.findClass RX2 = some m.cls := findClass_of_methodNamed B.named
  have hlocks := B.notSynchronized
  have hl := lv_entry ([.int x0, .int x1]) (n := 2) (Nat.le_of_ble_eq_true rfl)
  rw [lg_entry_eq]
  generalize (lg_sl ([.int x0, .int x1]) ++ List.replicate (2 - (lg_sl ([.int x0, .int x1])).length) Slot.unset).toArray = ls at hl ⊢
  have hl : lv_has ls 2 [(0, .int x0), (1, .int x1)] := hl
  unfold P_X2_shifted at h
  refine lv_iload_n hx hb dX2_shifted_0 rfl (lv_at hl 0 rfl) ?_
  refine lv_i2l hx hb dX2_shifted_1 rfl ?_
  refine lv_bipush (v := 8) hx hb dX2_shifted_2 (by decide) ?_
  refine lv_iload_n hx hb dX2_shifted_4 rfl (lv_at hl 1 rfl) ?_
  refine lv_imul hx hb dX2_shifted_5 ?_
  refine lv_lshl hx hb dX2_shifted_6 rfl ?_
  exact W.lret hx hb hr (fun t ht _ => ⟨_, rfl, h, ht⟩) (fun q hq => by cases hq) dX2_shifted_7
set_option maxHeartbeats 4000000 in
set_option maxRecDepth 100000 in
theorem c_X2_columnAt (l : Launch) {x0 : Int64} {x2 : Int32} {post : Int32 → Prop} (h : P_X2_columnAt x0 x2 post) : Met l yX2_columnAt wsX2_columnAt ({ frames := 0, cells := 0, slots := 0, locals := 0 } : Room) (va_Pc [.long x0, .int x2] (fun _ => True)) (vp_Si post) 0 0 (fun _ => False) := by
  refine Met.ofW (cc := cX2_columnAt) (maxL := 3) (ret := (some .int)) (by decide) rfl ?_
  intro p e s m args below meth c s₁ B hml hv
  obtain ⟨rfl, -⟩ := hv
  have hx := B.exec
  have hb := B.bytes
  have hr := B.returns
  have hts := atoms_spec (ws := wsX2_columnAt) B.pre
  have hown : s.vm.findClass RX2 = some m.cls := findClass_of_methodNamed B.named
  have hlocks := B.notSynchronized
  have hl := lv_entry ([.long x0, .int x2]) (n := 3) (Nat.le_of_ble_eq_true rfl)
  rw [lg_entry_eq]
  generalize (lg_sl ([.long x0, .int x2]) ++ List.replicate (3 - (lg_sl ([.long x0, .int x2])).length) Slot.unset).toArray = ls at hl ⊢
  have hl : lv_has ls 3 [(0, .long x0), (2, .int x2)] := hl
  unfold P_X2_columnAt at h
  refine lv_lload_n hx hb dX2_columnAt_0 rfl (lv_at hl 0 rfl) ?_
  refine lv_bipush (v := 8) hx hb dX2_columnAt_1 (by decide) ?_
  refine lv_iload_n hx hb dX2_columnAt_3 rfl (lv_at hl 1 rfl) ?_
  refine lv_imul hx hb dX2_columnAt_4 ?_
  refine lv_lushr hx hb dX2_columnAt_5 rfl ?_
  refine lv_l2i hx hb dX2_columnAt_6 rfl ?_
  refine lv_sipush (v := 255) hx hb dX2_columnAt_7 (by decide) ?_
  refine lv_iand hx hb dX2_columnAt_10 ?_
  exact W.iret hx hb hr (fun t ht _ => ⟨_, rfl, h, ht⟩) (fun q hq => by cases hq) dX2_columnAt_11
set_option maxHeartbeats 4000000 in
set_option maxRecDepth 100000 in
theorem c_X2_spanOfU (l : Launch) {x0 : Int64} {post : Int32 → Prop} (h : P_X2_spanOfU x0 post) : Met l yX2_spanOfU wsX2_spanOfU ({ frames := 2, cells := 0, slots := 0, locals := 44 } : Room) (va_Pc [.long x0] (fun _ => True)) (vp_Si post) 0 0 (fun _ => False) := by
  refine Met.ofW (cc := cX2_spanOfU) (maxL := 4) (ret := (some .int)) (by decide) rfl ?_
  intro p e s m args below meth c s₁ B hml hv
  obtain ⟨rfl, -⟩ := hv
  have hx := B.exec
  have hb := B.bytes
  have hr := B.returns
  have hts := atoms_spec (ws := wsX2_spanOfU) B.pre
  have hown : s.vm.findClass RX2 = some m.cls := findClass_of_methodNamed B.named
  have hlocks := B.notSynchronized
  have hl := lv_entry ([.long x0]) (n := 4) (Nat.le_of_ble_eq_true rfl)
  rw [lg_entry_eq]
  generalize (lg_sl ([.long x0]) ++ List.replicate (4 - (lg_sl ([.long x0])).length) Slot.unset).toArray = ls at hl ⊢
  have hl : lv_has ls 4 [(0, .long x0)] := hl
  unfold P_X2_spanOfU at h
  refine lv_iconst (v := 0) hx hb dX2_spanOfU_0 (by decide) ?_
  refine lv_istore_n (lv' := [(2, .int (0 : Int32)), (0, .long x0)]) hx hb dX2_spanOfU_1 rfl hl (by decide) rfl (fun ls hl => ?_)
  refine lv_iconst (v := 0) hx hb dX2_spanOfU_2 (by decide) ?_
  refine lv_istore_n (lv' := [(3, .int (0 : Int32)), (2, .int (0 : Int32)), (0, .long x0)]) hx hb dX2_spanOfU_3 rfl hl (by decide) rfl (fun ls hl => ?_)
  obtain ⟨K_4, hKi_4, h⟩ := jnE1 h
  have hK_4 : ∀ (v2_7 : Int32), K_4 v2_7 → ∀ (ls : Array Slot), lv_has ls 4 [(2, .int v2_7)] → W p l e (headSpec wsX2_spanOfU ({ frames := 2, cells := 0, slots := 0, locals := 44 } : Room)).room s m ([.long x0] : List Value).toArray below meth c s.heap [] 0 0 (MQ below (vp_Si post) ([.long x0] : List Value).toArray s 0 0 (fun _ => False)) (F0 m 30 ls []) := by
    intro v2_7 h ls hl
    have h := hKi_4 _ h
    refine lv_iload_n hx hb dX2_spanOfU_30 rfl (lv_at hl 0 rfl) ?_
    refine vp_callSi (W.runS (As := [.int _]) (rest := []) ⟨hx, hb, hml, hown, hts⟩ (c_X1_span l h) (va_cwS 1 hts gX2_spanOfU_X1_span rfl rfl rfl (by decide +kernel) ⟨Nat.le_of_ble_eq_true rfl, Nat.le_of_ble_eq_true rfl⟩) ⟨fun _ _ _ _ q => q, fun _ _ _ => ⟨rfl, trivial⟩⟩ rfl rfl hl.1 rfl (lv_room (Nat.le_of_ble_eq_true rfl)) dX2_spanOfU_31 ⟨Nat.zero_le _, Nat.zero_le _⟩) (fun r_8 h => ?_)
    exact W.iret hx hb hr (fun t ht _ => ⟨_, rfl, h, ht⟩) (fun q hq => by cases hq) dX2_spanOfU_34
  obtain ⟨n, h⟩ := h
  have loop_4 : ∀ (n : Nat) (v2_1 : Int32) (v3_2 : Int32), L_X2_spanOfU_4 post K_4 x0 n v2_1 v3_2 → ∀ (ls : Array Slot), lv_has ls 4 [(0, .long x0), (2, .int v2_1), (3, .int v3_2)] → W p l e (headSpec wsX2_spanOfU ({ frames := 2, cells := 0, slots := 0, locals := 44 } : Room)).room s m ([.long x0] : List Value).toArray below meth c s.heap [] 0 0 (MQ below (vp_Si post) ([.long x0] : List Value).toArray s 0 0 (fun _ => False)) (F0 m 4 ls []) := by
    intro n
    induction n with
    | zero => intro v2_1 v3_2 h; rw [L_X2_spanOfU_4] at h; exact h.elim
    | succ n ih_4 =>
      intro v2_1 v3_2 h ls hl
      rw [L_X2_spanOfU_4] at h
      refine lv_iload_n hx hb dX2_spanOfU_4 rfl (lv_at hl 2 rfl) ?_
      refine lv_bipush (v := 8) hx hb dX2_spanOfU_5 (by decide) ?_
      refine lv_icmp_ge (tgt := 30) hx hb dX2_spanOfU_7 (by decide) (fun c_7 => ?_) (fun c_7 => ?_)
      · have h := br1 h c_7
        exact hK_4 _ h _ (lv_sub hl [1] rfl)
      · have h := br2 h c_7
        refine lv_lload_n hx hb dX2_spanOfU_10 rfl (lv_at hl 0 rfl) ?_
        refine lv_iload_n hx hb dX2_spanOfU_11 rfl (lv_at hl 2 rfl) ?_
        refine vp_callSi (W.runS (As := [.long _, .int _]) (rest := []) ⟨hx, hb, hml, hown, hts⟩ (c_X2_columnAt l h) (va_cwS 2 hts gX2_spanOfU_X2_columnAt rfl rfl rfl (by decide +kernel) ⟨Nat.le_of_ble_eq_true rfl, Nat.le_of_ble_eq_true rfl⟩) ⟨fun _ _ _ _ q => q, fun _ _ _ => ⟨rfl, trivial⟩⟩ rfl rfl hl.1 rfl (lv_room (Nat.le_of_ble_eq_true rfl)) dX2_spanOfU_12 ⟨Nat.zero_le _, Nat.zero_le _⟩) (fun r_3 h => ?_)
        obtain ⟨J_24, hJi_24, h⟩ := jnE1 h
        have hJ_24 : ∀ (v2_5 : Int32), J_24 v2_5 → ∀ (ls : Array Slot), lv_has ls 4 [(0, .long x0), (2, .int v2_5), (3, .int v3_2)] → W p l e (headSpec wsX2_spanOfU ({ frames := 2, cells := 0, slots := 0, locals := 44 } : Room)).room s m ([.long x0] : List Value).toArray below meth c s.heap [] 0 0 (MQ below (vp_Si post) ([.long x0] : List Value).toArray s 0 0 (fun _ => False)) (F0 m 24 ls []) := by
          intro v2_5 h ls hl
          have h := hJi_24 _ h
          obtain ⟨y_6, ey_6⟩ : ∃ z : Int32, z = v3_2 + (1 : Int32) := ⟨_, rfl⟩
          have h := h y_6 ey_6
          refine lv_iinc (v := y_6) (lv' := [(3, .int y_6), (0, .long x0), (2, .int v2_5)]) hx hb dX2_spanOfU_24 hl (k := 2) rfl (by rw [ey_6]; rfl) (by decide) rfl (fun ls hl => ?_)
          refine lv_goto (tgt := 4) hx hb dX2_spanOfU_27 (by decide) ?_
          exact ih_4 _ _ h _ (lv_sub hl [1, 2, 0] rfl)
        refine lv_if_eq (tgt := 24) hx hb dX2_spanOfU_15 (by decide) (fun c_15 => ?_) (fun c_15 => ?_)
        · have h := br1 h c_15
          exact hJ_24 _ h _ (lv_sub hl [0, 1, 2] rfl)
        · have h := br2 h c_15
          refine lv_iload_n hx hb dX2_spanOfU_18 rfl (lv_at hl 1 rfl) ?_
          refine lv_iconst (v := 1) hx hb dX2_spanOfU_19 (by decide) ?_
          refine lv_iload_n hx hb dX2_spanOfU_20 rfl (lv_at hl 2 rfl) ?_
          refine lv_ishl hx hb dX2_spanOfU_21 ?_
          refine lv_ior hx hb dX2_spanOfU_22 ?_
          refine lv_topi (fun y_4 ey_4 => ?_)
          have h := h y_4 ey_4
          refine lv_istore_n (lv' := [(2, .int y_4), (0, .long x0), (3, .int v3_2)]) hx hb dX2_spanOfU_23 rfl hl (by decide) rfl (fun ls hl => ?_)
          exact hJ_24 _ h _ (lv_sub hl [1, 0, 2] rfl)
  exact loop_4 n _ _ h _ (lv_sub hl [2, 1, 0] rfl)
set_option maxHeartbeats 4000000 in
set_option maxRecDepth 100000 in
theorem c_X2_spanOfZ (l : Launch) {x0 : Int64} {post : Int32 → Prop} (h : P_X2_spanOfZ x0 post) : Met l yX2_spanOfZ wsX2_spanOfZ ({ frames := 2, cells := 0, slots := 0, locals := 44 } : Room) (va_Pc [.long x0] (fun _ => True)) (vp_Si post) 0 0 (fun _ => False) := by
  refine Met.ofW (cc := cX2_spanOfZ) (maxL := 4) (ret := (some .int)) (by decide) rfl ?_
  intro p e s m args below meth c s₁ B hml hv
  obtain ⟨rfl, -⟩ := hv
  have hx := B.exec
  have hb := B.bytes
  have hr := B.returns
  have hts := atoms_spec (ws := wsX2_spanOfZ) B.pre
  have hown : s.vm.findClass RX2 = some m.cls := findClass_of_methodNamed B.named
  have hlocks := B.notSynchronized
  have hl := lv_entry ([.long x0]) (n := 4) (Nat.le_of_ble_eq_true rfl)
  rw [lg_entry_eq]
  generalize (lg_sl ([.long x0]) ++ List.replicate (4 - (lg_sl ([.long x0])).length) Slot.unset).toArray = ls at hl ⊢
  have hl : lv_has ls 4 [(0, .long x0)] := hl
  unfold P_X2_spanOfZ at h
  refine lv_iconst (v := 0) hx hb dX2_spanOfZ_0 (by decide) ?_
  refine lv_istore_n (lv' := [(2, .int (0 : Int32)), (0, .long x0)]) hx hb dX2_spanOfZ_1 rfl hl (by decide) rfl (fun ls hl => ?_)
  refine lv_iconst (v := 0) hx hb dX2_spanOfZ_2 (by decide) ?_
  refine lv_istore_n (lv' := [(3, .int (0 : Int32)), (2, .int (0 : Int32)), (0, .long x0)]) hx hb dX2_spanOfZ_3 rfl hl (by decide) rfl (fun ls hl => ?_)
  obtain ⟨K_4, hKi_4, h⟩ := jnE1 h
  have hK_4 : ∀ (v2_6 : Int32), K_4 v2_6 → ∀ (ls : Array Slot), lv_has ls 4 [(2, .int v2_6)] → W p l e (headSpec wsX2_spanOfZ ({ frames := 2, cells := 0, slots := 0, locals := 44 } : Room)).room s m ([.long x0] : List Value).toArray below meth c s.heap [] 0 0 (MQ below (vp_Si post) ([.long x0] : List Value).toArray s 0 0 (fun _ => False)) (F0 m 24 ls []) := by
    intro v2_6 h ls hl
    have h := hKi_4 _ h
    refine lv_iload_n hx hb dX2_spanOfZ_24 rfl (lv_at hl 0 rfl) ?_
    refine vp_callSi (W.runS (As := [.int _]) (rest := []) ⟨hx, hb, hml, hown, hts⟩ (c_X1_span l h) (va_cwS 1 hts gX2_spanOfZ_X1_span rfl rfl rfl (by decide +kernel) ⟨Nat.le_of_ble_eq_true rfl, Nat.le_of_ble_eq_true rfl⟩) ⟨fun _ _ _ _ q => q, fun _ _ _ => ⟨rfl, trivial⟩⟩ rfl rfl hl.1 rfl (lv_room (Nat.le_of_ble_eq_true rfl)) dX2_spanOfZ_25 ⟨Nat.zero_le _, Nat.zero_le _⟩) (fun r_7 h => ?_)
    exact W.iret hx hb hr (fun t ht _ => ⟨_, rfl, h, ht⟩) (fun q hq => by cases hq) dX2_spanOfZ_28
  obtain ⟨n, h⟩ := h
  have loop_4 : ∀ (n : Nat) (v2_1 : Int32) (v3_2 : Int32), L_X2_spanOfZ_4 post K_4 x0 n v2_1 v3_2 → ∀ (ls : Array Slot), lv_has ls 4 [(0, .long x0), (2, .int v2_1), (3, .int v3_2)] → W p l e (headSpec wsX2_spanOfZ ({ frames := 2, cells := 0, slots := 0, locals := 44 } : Room)).room s m ([.long x0] : List Value).toArray below meth c s.heap [] 0 0 (MQ below (vp_Si post) ([.long x0] : List Value).toArray s 0 0 (fun _ => False)) (F0 m 4 ls []) := by
    intro n
    induction n with
    | zero => intro v2_1 v3_2 h; rw [L_X2_spanOfZ_4] at h; exact h.elim
    | succ n ih_4 =>
      intro v2_1 v3_2 h ls hl
      rw [L_X2_spanOfZ_4] at h
      refine lv_iload_n hx hb dX2_spanOfZ_4 rfl (lv_at hl 2 rfl) ?_
      refine lv_bipush (v := 8) hx hb dX2_spanOfZ_5 (by decide) ?_
      refine lv_icmp_ge (tgt := 24) hx hb dX2_spanOfZ_7 (by decide) (fun c_7 => ?_) (fun c_7 => ?_)
      · have h := br1 h c_7
        exact hK_4 _ h _ (lv_sub hl [1] rfl)
      · have h := br2 h c_7
        refine lv_iload_n hx hb dX2_spanOfZ_10 rfl (lv_at hl 1 rfl) ?_
        refine lv_lload_n hx hb dX2_spanOfZ_11 rfl (lv_at hl 0 rfl) ?_
        refine lv_iload_n hx hb dX2_spanOfZ_12 rfl (lv_at hl 2 rfl) ?_
        refine vp_callSi (W.runS (As := [.long _, .int _]) (rest := [.int _]) ⟨hx, hb, hml, hown, hts⟩ (c_X2_columnAt l h) (va_cwS 2 hts gX2_spanOfZ_X2_columnAt rfl rfl rfl (by decide +kernel) ⟨Nat.le_of_ble_eq_true rfl, Nat.le_of_ble_eq_true rfl⟩) ⟨fun _ _ _ _ q => q, fun _ _ _ => ⟨rfl, trivial⟩⟩ rfl rfl hl.1 rfl (lv_room (Nat.le_of_ble_eq_true rfl)) dX2_spanOfZ_13 ⟨Nat.zero_le _, Nat.zero_le _⟩) (fun r_3 h => ?_)
        refine lv_ior hx hb dX2_spanOfZ_16 ?_
        refine lv_topi (fun y_4 ey_4 => ?_)
        have h := h y_4 ey_4
        refine lv_istore_n (lv' := [(2, .int y_4), (0, .long x0), (3, .int v3_2)]) hx hb dX2_spanOfZ_17 rfl hl (by decide) rfl (fun ls hl => ?_)
        obtain ⟨y_5, ey_5⟩ : ∃ z : Int32, z = v3_2 + (1 : Int32) := ⟨_, rfl⟩
        have h := h y_5 ey_5
        refine lv_iinc (v := y_5) (lv' := [(3, .int y_5), (2, .int y_4), (0, .long x0)]) hx hb dX2_spanOfZ_18 hl (k := 2) rfl (by rw [ey_5]; rfl) (by decide) rfl (fun ls hl => ?_)
        refine lv_goto (tgt := 4) hx hb dX2_spanOfZ_21 (by decide) ?_
        exact ih_4 _ _ h _ (lv_sub hl [2, 1, 0] rfl)
  exact loop_4 n _ _ h _ (lv_sub hl [2, 1, 0] rfl)
set_option maxHeartbeats 4000000 in
set_option maxRecDepth 100000 in
theorem c_J13_bitCount_95d88 (l : Launch) {x0 : Int64} {post : Int32 → Prop} (h : P_J13_bitCount_95d88 x0 post) : Met l yJ13_bitCount_95d88 wsJ13_bitCount_95d88 ({ frames := 0, cells := 0, slots := 0, locals := 0 } : Room) (va_Pc [.long x0] (fun _ => True)) (vp_Si post) 0 0 (fun _ => False) := by
  refine Met.ofW (cc := cJ13_bitCount_95d88) (maxL := 2) (ret := (some .int)) (by decide) rfl ?_
  intro p e s m args below meth c s₁ B hml hv
  obtain ⟨rfl, -⟩ := hv
  have hx := B.exec
  have hb := B.bytes
  have hr := B.returns
  have hts := atoms_spec (ws := wsJ13_bitCount_95d88) B.pre
  have hown : s.vm.findClass RJ13 = some m.cls := findClass_of_methodNamed B.named
  have hlocks := B.notSynchronized
  have hl := lv_entry ([.long x0]) (n := 2) (Nat.le_of_ble_eq_true rfl)
  rw [lg_entry_eq]
  generalize (lg_sl ([.long x0]) ++ List.replicate (2 - (lg_sl ([.long x0])).length) Slot.unset).toArray = ls at hl ⊢
  have hl : lv_has ls 2 [(0, .long x0)] := hl
  have k_314 := hts (.constantLong RJ13 314 (6148914691236517205)) (by decide +kernel)
  have k_316 := hts (.constantLong RJ13 316 (3689348814741910323)) (by decide +kernel)
  have k_318 := hts (.constantLong RJ13 318 (1085102592571150095)) (by decide +kernel)
  unfold P_J13_bitCount_95d88 at h
  refine lv_lload_n hx hb dJ13_bitCount_95d88_0 rfl (lv_at hl 0 rfl) ?_
  refine lv_lload_n hx hb dJ13_bitCount_95d88_1 rfl (lv_at hl 0 rfl) ?_
  refine lv_iconst (v := 1) hx hb dJ13_bitCount_95d88_2 (by decide) ?_
  refine lv_lushr hx hb dJ13_bitCount_95d88_3 rfl ?_
  refine lv_ldc2 hx hb hown k_314 dJ13_bitCount_95d88_4 ?_
  refine lv_land hx hb dJ13_bitCount_95d88_7 ?_
  refine lv_lsub hx hb dJ13_bitCount_95d88_8 ?_
  refine lv_topl (fun y_1 ey_1 => ?_)
  have h := h y_1 ey_1
  refine lv_lstore_n (lv' := [(0, .long y_1)]) hx hb dJ13_bitCount_95d88_9 rfl hl (by decide) rfl (fun ls hl => ?_)
  refine lv_lload_n hx hb dJ13_bitCount_95d88_10 rfl (lv_at hl 0 rfl) ?_
  refine lv_ldc2 hx hb hown k_316 dJ13_bitCount_95d88_11 ?_
  refine lv_land hx hb dJ13_bitCount_95d88_14 ?_
  refine lv_lload_n hx hb dJ13_bitCount_95d88_15 rfl (lv_at hl 0 rfl) ?_
  refine lv_iconst (v := 2) hx hb dJ13_bitCount_95d88_16 (by decide) ?_
  refine lv_lushr hx hb dJ13_bitCount_95d88_17 rfl ?_
  refine lv_ldc2 hx hb hown k_316 dJ13_bitCount_95d88_18 ?_
  refine lv_land hx hb dJ13_bitCount_95d88_21 ?_
  refine lv_ladd hx hb dJ13_bitCount_95d88_22 ?_
  refine lv_topl (fun y_2 ey_2 => ?_)
  have h := h y_2 ey_2
  refine lv_lstore_n (lv' := [(0, .long y_2)]) hx hb dJ13_bitCount_95d88_23 rfl hl (by decide) rfl (fun ls hl => ?_)
  refine lv_lload_n hx hb dJ13_bitCount_95d88_24 rfl (lv_at hl 0 rfl) ?_
  refine lv_lload_n hx hb dJ13_bitCount_95d88_25 rfl (lv_at hl 0 rfl) ?_
  refine lv_iconst (v := 4) hx hb dJ13_bitCount_95d88_26 (by decide) ?_
  refine lv_lushr hx hb dJ13_bitCount_95d88_27 rfl ?_
  refine lv_ladd hx hb dJ13_bitCount_95d88_28 ?_
  refine lv_ldc2 hx hb hown k_318 dJ13_bitCount_95d88_29 ?_
  refine lv_land hx hb dJ13_bitCount_95d88_32 ?_
  refine lv_topl (fun y_3 ey_3 => ?_)
  have h := h y_3 ey_3
  refine lv_lstore_n (lv' := [(0, .long y_3)]) hx hb dJ13_bitCount_95d88_33 rfl hl (by decide) rfl (fun ls hl => ?_)
  refine lv_lload_n hx hb dJ13_bitCount_95d88_34 rfl (lv_at hl 0 rfl) ?_
  refine lv_lload_n hx hb dJ13_bitCount_95d88_35 rfl (lv_at hl 0 rfl) ?_
  refine lv_bipush (v := 8) hx hb dJ13_bitCount_95d88_36 (by decide) ?_
  refine lv_lushr hx hb dJ13_bitCount_95d88_38 rfl ?_
  refine lv_ladd hx hb dJ13_bitCount_95d88_39 ?_
  refine lv_topl (fun y_4 ey_4 => ?_)
  have h := h y_4 ey_4
  refine lv_lstore_n (lv' := [(0, .long y_4)]) hx hb dJ13_bitCount_95d88_40 rfl hl (by decide) rfl (fun ls hl => ?_)
  refine lv_lload_n hx hb dJ13_bitCount_95d88_41 rfl (lv_at hl 0 rfl) ?_
  refine lv_lload_n hx hb dJ13_bitCount_95d88_42 rfl (lv_at hl 0 rfl) ?_
  refine lv_bipush (v := 16) hx hb dJ13_bitCount_95d88_43 (by decide) ?_
  refine lv_lushr hx hb dJ13_bitCount_95d88_45 rfl ?_
  refine lv_ladd hx hb dJ13_bitCount_95d88_46 ?_
  refine lv_topl (fun y_5 ey_5 => ?_)
  have h := h y_5 ey_5
  refine lv_lstore_n (lv' := [(0, .long y_5)]) hx hb dJ13_bitCount_95d88_47 rfl hl (by decide) rfl (fun ls hl => ?_)
  refine lv_lload_n hx hb dJ13_bitCount_95d88_48 rfl (lv_at hl 0 rfl) ?_
  refine lv_lload_n hx hb dJ13_bitCount_95d88_49 rfl (lv_at hl 0 rfl) ?_
  refine lv_bipush (v := 32) hx hb dJ13_bitCount_95d88_50 (by decide) ?_
  refine lv_lushr hx hb dJ13_bitCount_95d88_52 rfl ?_
  refine lv_ladd hx hb dJ13_bitCount_95d88_53 ?_
  refine lv_topl (fun y_6 ey_6 => ?_)
  have h := h y_6 ey_6
  refine lv_lstore_n (lv' := [(0, .long y_6)]) hx hb dJ13_bitCount_95d88_54 rfl hl (by decide) rfl (fun ls hl => ?_)
  refine lv_lload_n hx hb dJ13_bitCount_95d88_55 rfl (lv_at hl 0 rfl) ?_
  refine lv_l2i hx hb dJ13_bitCount_95d88_56 rfl ?_
  refine lv_bipush (v := 127) hx hb dJ13_bitCount_95d88_57 (by decide) ?_
  refine lv_iand hx hb dJ13_bitCount_95d88_59 ?_
  exact W.iret hx hb hr (fun t ht _ => ⟨_, rfl, h, ht⟩) (fun q hq => by cases hq) dJ13_bitCount_95d88_60
set_option maxHeartbeats 4000000 in
set_option maxRecDepth 100000 in
theorem c_X4_isSize (l : Launch) {x0 : Int32} {post : Int32 → Prop} (h : P_X4_isSize x0 post) : Met l yX4_isSize wsX4_isSize ({ frames := 0, cells := 0, slots := 0, locals := 0 } : Room) (va_Pc [.int x0] (fun _ => True)) (vp_Si post) 0 0 (fun _ => False) := by
  refine Met.ofW (cc := cX4_isSize) (maxL := 1) (ret := (some .boolean)) (by decide) rfl ?_
  intro p e s m args below meth c s₁ B hml hv
  obtain ⟨rfl, -⟩ := hv
  have hx := B.exec
  have hb := B.bytes
  have hr := B.returns
  have hts := atoms_spec (ws := wsX4_isSize) B.pre
  have hown : s.vm.findClass RX4 = some m.cls := findClass_of_methodNamed B.named
  have hlocks := B.notSynchronized
  have hl := lv_entry ([.int x0]) (n := 1) (Nat.le_of_ble_eq_true rfl)
  rw [lg_entry_eq]
  generalize (lg_sl ([.int x0]) ++ List.replicate (1 - (lg_sl ([.int x0])).length) Slot.unset).toArray = ls at hl ⊢
  have hl : lv_has ls 1 [(0, .int x0)] := hl
  unfold P_X4_isSize at h
  refine lv_iload_n hx hb dX4_isSize_0 rfl (lv_at hl 0 rfl) ?_
  refine lv_iconst (v := 1) hx hb dX4_isSize_1 (by decide) ?_
  refine lv_icmp_lt (tgt := 15) hx hb dX4_isSize_2 (by decide) (fun c_2 => ?_) (fun c_2 => ?_)
  · have h := br1 h c_2
    refine lv_iconst (v := 0) hx hb dX4_isSize_15 (by decide) ?_
    exact W.zret (ty := .boolean) hx hb hr rfl (fun t ht _ => ⟨_, rfl, h, ht⟩) (fun q hq => by cases hq) dX4_isSize_16
  · have h := br2 h c_2
    refine lv_iload_n hx hb dX4_isSize_5 rfl (lv_at hl 0 rfl) ?_
    refine lv_bipush (v := 8) hx hb dX4_isSize_6 (by decide) ?_
    refine lv_icmp_gt (tgt := 15) hx hb dX4_isSize_8 (by decide) (fun c_8 => ?_) (fun c_8 => ?_)
    · have h := br1 h c_8
      refine lv_iconst (v := 0) hx hb dX4_isSize_15 (by decide) ?_
      exact W.zret (ty := .boolean) hx hb hr rfl (fun t ht _ => ⟨_, rfl, h, ht⟩) (fun q hq => by cases hq) dX4_isSize_16
    · have h := br2 h c_8
      refine lv_iconst (v := 1) hx hb dX4_isSize_11 (by decide) ?_
      refine lv_goto (tgt := 16) hx hb dX4_isSize_12 (by decide) ?_
      exact W.zret (ty := .boolean) hx hb hr rfl (fun t ht _ => ⟨_, rfl, h, ht⟩) (fun q hq => by cases hq) dX4_isSize_16
set_option maxHeartbeats 4000000 in
set_option maxRecDepth 100000 in
theorem c_X4_isCorner (l : Launch) {x0 : Int32} {post : Int32 → Prop} (h : P_X4_isCorner x0 post) : Met l yX4_isCorner wsX4_isCorner ({ frames := 0, cells := 0, slots := 0, locals := 0 } : Room) (va_Pc [.int x0] (fun _ => True)) (vp_Si post) 0 0 (fun _ => False) := by
  refine Met.ofW (cc := cX4_isCorner) (maxL := 1) (ret := (some .boolean)) (by decide) rfl ?_
  intro p e s m args below meth c s₁ B hml hv
  obtain ⟨rfl, -⟩ := hv
  have hx := B.exec
  have hb := B.bytes
  have hr := B.returns
  have hts := atoms_spec (ws := wsX4_isCorner) B.pre
  have hown : s.vm.findClass RX4 = some m.cls := findClass_of_methodNamed B.named
  have hlocks := B.notSynchronized
  have hl := lv_entry ([.int x0]) (n := 1) (Nat.le_of_ble_eq_true rfl)
  rw [lg_entry_eq]
  generalize (lg_sl ([.int x0]) ++ List.replicate (1 - (lg_sl ([.int x0])).length) Slot.unset).toArray = ls at hl ⊢
  have hl : lv_has ls 1 [(0, .int x0)] := hl
  unfold P_X4_isCorner at h
  refine lv_iload_n hx hb dX4_isCorner_0 rfl (lv_at hl 0 rfl) ?_
  refine lv_bipush (v := (-8)) hx hb dX4_isCorner_1 (by decide) ?_
  refine lv_icmp_lt (tgt := 16) hx hb dX4_isCorner_3 (by decide) (fun c_3 => ?_) (fun c_3 => ?_)
  · have h := br1 h c_3
    refine lv_iconst (v := 0) hx hb dX4_isCorner_16 (by decide) ?_
    exact W.zret (ty := .boolean) hx hb hr rfl (fun t ht _ => ⟨_, rfl, h, ht⟩) (fun q hq => by cases hq) dX4_isCorner_17
  · have h := br2 h c_3
    refine lv_iload_n hx hb dX4_isCorner_6 rfl (lv_at hl 0 rfl) ?_
    refine lv_bipush (v := 8) hx hb dX4_isCorner_7 (by decide) ?_
    refine lv_icmp_gt (tgt := 16) hx hb dX4_isCorner_9 (by decide) (fun c_9 => ?_) (fun c_9 => ?_)
    · have h := br1 h c_9
      refine lv_iconst (v := 0) hx hb dX4_isCorner_16 (by decide) ?_
      exact W.zret (ty := .boolean) hx hb hr rfl (fun t ht _ => ⟨_, rfl, h, ht⟩) (fun q hq => by cases hq) dX4_isCorner_17
    · have h := br2 h c_9
      refine lv_iconst (v := 1) hx hb dX4_isCorner_12 (by decide) ?_
      refine lv_goto (tgt := 17) hx hb dX4_isCorner_13 (by decide) ?_
      exact W.zret (ty := .boolean) hx hb hr rfl (fun t ht _ => ⟨_, rfl, h, ht⟩) (fun q hq => by cases hq) dX4_isCorner_17
set_option maxHeartbeats 4000000 in
set_option maxRecDepth 100000 in
theorem c_X4_asNumber (l : Launch) {x0 : Int32} {post : Int32 → Prop} (h : P_X4_asNumber x0 post) : Met l yX4_asNumber wsX4_asNumber ({ frames := 0, cells := 0, slots := 0, locals := 0 } : Room) (va_Pc [.int x0] (fun _ => True)) (vp_Si post) 0 0 (fun _ => False) := by
  refine Met.ofW (cc := cX4_asNumber) (maxL := 1) (ret := (some .int)) (by decide) rfl ?_
  intro p e s m args below meth c s₁ B hml hv
  obtain ⟨rfl, -⟩ := hv
  have hx := B.exec
  have hb := B.bytes
  have hr := B.returns
  have hts := atoms_spec (ws := wsX4_asNumber) B.pre
  have hown : s.vm.findClass RX4 = some m.cls := findClass_of_methodNamed B.named
  have hlocks := B.notSynchronized
  have hl := lv_entry ([.int x0]) (n := 1) (Nat.le_of_ble_eq_true rfl)
  rw [lg_entry_eq]
  generalize (lg_sl ([.int x0]) ++ List.replicate (1 - (lg_sl ([.int x0])).length) Slot.unset).toArray = ls at hl ⊢
  have hl : lv_has ls 1 [(0, .int x0)] := hl
  unfold P_X4_asNumber at h
  refine lv_iload_n hx hb dX4_asNumber_0 rfl (lv_at hl 0 rfl) ?_
  refine lv_if_eq (tgt := 8) hx hb dX4_asNumber_1 (by decide) (fun c_1 => ?_) (fun c_1 => ?_)
  · have h := br1 h c_1
    refine lv_iconst (v := 0) hx hb dX4_asNumber_8 (by decide) ?_
    exact W.iret hx hb hr (fun t ht _ => ⟨_, rfl, h, ht⟩) (fun q hq => by cases hq) dX4_asNumber_9
  · have h := br2 h c_1
    refine lv_iconst (v := 1) hx hb dX4_asNumber_4 (by decide) ?_
    refine lv_goto (tgt := 9) hx hb dX4_asNumber_5 (by decide) ?_
    exact W.iret hx hb hr (fun t ht _ => ⟨_, rfl, h, ht⟩) (fun q hq => by cases hq) dX4_asNumber_9
set_option maxHeartbeats 4000000 in
set_option maxRecDepth 100000 in
theorem c_X5_in (l : Launch) {x0 : Int64} {x2 : Int64} {x4 : Int64} {post : Int32 → Prop} (h : P_X5_in x0 x2 x4 post) : Met l yX5_in wsX5_in ({ frames := 0, cells := 0, slots := 0, locals := 0 } : Room) (va_Pc [.long x0, .long x2, .long x4] (fun _ => True)) (vp_Si post) 0 0 (fun _ => False) := by
  refine Met.ofW (cc := cX5_in) (maxL := 6) (ret := (some .boolean)) (by decide) rfl ?_
  intro p e s m args below meth c s₁ B hml hv
  obtain ⟨rfl, -⟩ := hv
  have hx := B.exec
  have hb := B.bytes
  have hr := B.returns
  have hts := atoms_spec (ws := wsX5_in) B.pre
  have hown : s.vm.findClass RX5 = some m.cls := findClass_of_methodNamed B.named
  have hlocks := B.notSynchronized
  have hl := lv_entry ([.long x0, .long x2, .long x4]) (n := 6) (Nat.le_of_ble_eq_true rfl)
  rw [lg_entry_eq]
  generalize (lg_sl ([.long x0, .long x2, .long x4]) ++ List.replicate (6 - (lg_sl ([.long x0, .long x2, .long x4])).length) Slot.unset).toArray = ls at hl ⊢
  have hl : lv_has ls 6 [(0, .long x0), (2, .long x2), (4, .long x4)] := hl
  unfold P_X5_in at h
  refine lv_lload_n hx hb dX5_in_0 rfl (lv_at hl 0 rfl) ?_
  refine lv_lload_n hx hb dX5_in_1 rfl (lv_at hl 1 rfl) ?_
  refine W.lcmp hx hb dX5_in_2 ?_
  refine lv_if_lt (tgt := 17) hx hb dX5_in_3 (by decide) (fun c_3 => ?_) (fun c_3 => ?_)
  · have h := br1 h c_3
    refine lv_iconst (v := 0) hx hb dX5_in_17 (by decide) ?_
    exact W.zret (ty := .boolean) hx hb hr rfl (fun t ht _ => ⟨_, rfl, h, ht⟩) (fun q hq => by cases hq) dX5_in_18
  · have h := br2 h c_3
    refine lv_lload_n hx hb dX5_in_6 rfl (lv_at hl 0 rfl) ?_
    refine lv_lload hx hb dX5_in_7 (lv_at hl 2 rfl) ?_
    refine W.lcmp hx hb dX5_in_9 ?_
    refine lv_if_gt (tgt := 17) hx hb dX5_in_10 (by decide) (fun c_10 => ?_) (fun c_10 => ?_)
    · have h := br1 h c_10
      refine lv_iconst (v := 0) hx hb dX5_in_17 (by decide) ?_
      exact W.zret (ty := .boolean) hx hb hr rfl (fun t ht _ => ⟨_, rfl, h, ht⟩) (fun q hq => by cases hq) dX5_in_18
    · have h := br2 h c_10
      refine lv_iconst (v := 1) hx hb dX5_in_13 (by decide) ?_
      refine lv_goto (tgt := 18) hx hb dX5_in_14 (by decide) ?_
      exact W.zret (ty := .boolean) hx hb hr rfl (fun t ht _ => ⟨_, rfl, h, ht⟩) (fun q hq => by cases hq) dX5_in_18
set_option maxHeartbeats 4000000 in
set_option maxRecDepth 100000 in
theorem c_X5_ones (l : Launch) {x0 : Int32} {post : Int32 → Prop} (h : P_X5_ones x0 post) : Met l yX5_ones wsX5_ones ({ frames := 0, cells := 0, slots := 0, locals := 0 } : Room) (va_Pc [.int x0] (fun _ => True)) (vp_Si post) 0 0 (fun _ => False) := by
  refine Met.ofW (cc := cX5_ones) (maxL := 3) (ret := (some .int)) (by decide) rfl ?_
  intro p e s m args below meth c s₁ B hml hv
  obtain ⟨rfl, -⟩ := hv
  have hx := B.exec
  have hb := B.bytes
  have hr := B.returns
  have hts := atoms_spec (ws := wsX5_ones) B.pre
  have hown : s.vm.findClass RX5 = some m.cls := findClass_of_methodNamed B.named
  have hlocks := B.notSynchronized
  have hl := lv_entry ([.int x0]) (n := 3) (Nat.le_of_ble_eq_true rfl)
  rw [lg_entry_eq]
  generalize (lg_sl ([.int x0]) ++ List.replicate (3 - (lg_sl ([.int x0])).length) Slot.unset).toArray = ls at hl ⊢
  have hl : lv_has ls 3 [(0, .int x0)] := hl
  unfold P_X5_ones at h
  refine lv_iconst (v := 0) hx hb dX5_ones_0 (by decide) ?_
  refine lv_istore_n (lv' := [(1, .int (0 : Int32)), (0, .int x0)]) hx hb dX5_ones_1 rfl hl (by decide) rfl (fun ls hl => ?_)
  refine lv_iconst (v := 0) hx hb dX5_ones_2 (by decide) ?_
  refine lv_istore_n (lv' := [(2, .int (0 : Int32)), (1, .int (0 : Int32)), (0, .int x0)]) hx hb dX5_ones_3 rfl hl (by decide) rfl (fun ls hl => ?_)
  obtain ⟨K_4, hKi_4, h⟩ := jnE1 h
  have hK_4 : ∀ (v1_5 : Int32), K_4 v1_5 → ∀ (ls : Array Slot), lv_has ls 3 [(1, .int v1_5)] → W p l e (headSpec wsX5_ones ({ frames := 0, cells := 0, slots := 0, locals := 0 } : Room)).room s m ([.int x0] : List Value).toArray below meth c s.heap [] 0 0 (MQ below (vp_Si post) ([.int x0] : List Value).toArray s 0 0 (fun _ => False)) (F0 m 24 ls []) := by
    intro v1_5 h ls hl
    have h := hKi_4 _ h
    refine lv_iload_n hx hb dX5_ones_24 rfl (lv_at hl 0 rfl) ?_
    exact W.iret hx hb hr (fun t ht _ => ⟨_, rfl, h, ht⟩) (fun q hq => by cases hq) dX5_ones_25
  obtain ⟨n, h⟩ := h
  have loop_4 : ∀ (n : Nat) (v1_1 : Int32) (v2_2 : Int32), L_X5_ones_4 post K_4 x0 n v1_1 v2_2 → ∀ (ls : Array Slot), lv_has ls 3 [(0, .int x0), (1, .int v1_1), (2, .int v2_2)] → W p l e (headSpec wsX5_ones ({ frames := 0, cells := 0, slots := 0, locals := 0 } : Room)).room s m ([.int x0] : List Value).toArray below meth c s.heap [] 0 0 (MQ below (vp_Si post) ([.int x0] : List Value).toArray s 0 0 (fun _ => False)) (F0 m 4 ls []) := by
    intro n
    induction n with
    | zero => intro v1_1 v2_2 h; rw [L_X5_ones_4] at h; exact h.elim
    | succ n ih_4 =>
      intro v1_1 v2_2 h ls hl
      rw [L_X5_ones_4] at h
      refine lv_iload_n hx hb dX5_ones_4 rfl (lv_at hl 2 rfl) ?_
      refine lv_bipush (v := 8) hx hb dX5_ones_5 (by decide) ?_
      refine lv_icmp_ge (tgt := 24) hx hb dX5_ones_7 (by decide) (fun c_7 => ?_) (fun c_7 => ?_)
      · have h := br1 h c_7
        exact hK_4 _ h _ (lv_sub hl [1] rfl)
      · have h := br2 h c_7
        refine lv_iload_n hx hb dX5_ones_10 rfl (lv_at hl 1 rfl) ?_
        refine lv_iload_n hx hb dX5_ones_11 rfl (lv_at hl 0 rfl) ?_
        refine lv_iload_n hx hb dX5_ones_12 rfl (lv_at hl 2 rfl) ?_
        refine lv_ishr hx hb dX5_ones_13 ?_
        refine lv_iconst (v := 1) hx hb dX5_ones_14 (by decide) ?_
        refine lv_iand hx hb dX5_ones_15 ?_
        refine lv_iadd hx hb dX5_ones_16 ?_
        refine lv_topi (fun y_3 ey_3 => ?_)
        have h := h y_3 ey_3
        refine lv_istore_n (lv' := [(1, .int y_3), (0, .int x0), (2, .int v2_2)]) hx hb dX5_ones_17 rfl hl (by decide) rfl (fun ls hl => ?_)
        obtain ⟨y_4, ey_4⟩ : ∃ z : Int32, z = v2_2 + (1 : Int32) := ⟨_, rfl⟩
        have h := h y_4 ey_4
        refine lv_iinc (v := y_4) (lv' := [(2, .int y_4), (1, .int y_3), (0, .int x0)]) hx hb dX5_ones_18 hl (k := 2) rfl (by rw [ey_4]; rfl) (by decide) rfl (fun ls hl => ?_)
        refine lv_goto (tgt := 4) hx hb dX5_ones_21 (by decide) ?_
        exact ih_4 _ _ h _ (lv_sub hl [2, 1, 0] rfl)
  exact loop_4 n _ _ h _ (lv_sub hl [2, 1, 0] rfl)
