set_option maxHeartbeats 4000000 in
set_option maxRecDepth 100000 in
theorem c_X3_beginAnew (l : Launch) (dC : Nat → ClassId) (dI : Nat → Nat → Nat) (h0 h1 h2 : Nat) (cI : ClassId) (sz : Nat) {u : St} {x1 : Int32} {x2 : Int32} {x3 : Int32} {post : St → Prop} (h : P_X3_beginAnew u x1 x2 x3 post) : Met l yX3_beginAnew wsX3_beginAnew ({ frames := 0, cells := 0, slots := 0, locals := 0 } : Room) (MPre (dC, dI) vwCl (wS h0 h1 h2 cI u) [(cI, .int)] sz [.ref h0, .int x1, .int x2, .int x3]) (va_Qv post (fun (u2 : St) (t : State) => va_P (dC, dI) vwCl (wS h0 h1 h2 cI u2) t.heap) (va_A (wS h0 h1 h2 cI u) sz)) 0 0 (va_A (wS h0 h1 h2 cI u) sz) := by
  refine Met.ofW (cc := cX3_beginAnew) (maxL := 5) (ret := none) (by decide) rfl ?_
  intro p e s m args below meth c s₁ B hml hv
  obtain ⟨rfl, hsz, hP, hK, hD0⟩ := hv
  have hx := B.exec
  have hb := B.bytes
  have hr := B.returns
  have hts := atoms_spec (ws := wsX3_beginAnew) B.pre
  have hown : s.vm.findClass RX3 = some m.cls := findClass_of_methodNamed B.named
  have hlocks := B.notSynchronized
  subst hsz
  have hD1 := hD0.self (sz := s.heap.size)
  generalize hAe : va_A (wS h0 h1 h2 cI u) s.heap.size = A at hD1 ⊢
  have hA : ∀ q : Nat, s.heap.size ≤ q → A q := fun q h => by rw [← hAe]; exact Or.inr h
  have hD : ∀ z, va_D A (wS h0 h1 h2 cI z) := fun z => va_Dsame hD1 rfl
  have hS : va_S A s.heap s.heap [] := va_S.rf
  have hl := lv_entry ([.ref h0, .int x1, .int x2, .int x3]) (n := 5) (Nat.le_of_ble_eq_true rfl)
  rw [lg_entry_eq]
  generalize (lg_sl ([.ref h0, .int x1, .int x2, .int x3]) ++ List.replicate (5 - (lg_sl ([.ref h0, .int x1, .int x2, .int x3])).length) Slot.unset).toArray = ls at hl ⊢
  have hl : lv_has ls 5 [(0, .ref h0), (1, .int x1), (2, .int x2), (3, .int x3)] := hl
  have i_X3 : ∀ w ∈ u_ws RX3 TX3 7, w ∈ wsX3_beginAnew := by decide +kernel
  have f_11 := hts (.fieldLink RX3 11 "SliceBody$Solid" "columns" "[I") (by decide +kernel)
  have f_18 := hts (.fieldLink RX3 18 "SliceBody$Solid" "wide" "I") (by decide +kernel)
  have f_22 := hts (.fieldLink RX3 22 "SliceBody$Solid" "deep" "I") (by decide +kernel)
  have f_25 := hts (.fieldLink RX3 25 "SliceBody$Solid" "high" "I") (by decide +kernel)
  have f_28 := hts (.fieldLink RX3 28 "SliceBody$Solid" "chosenAtX" "I") (by decide +kernel)
  have f_31 := hts (.fieldLink RX3 31 "SliceBody$Solid" "chosenAtY" "I") (by decide +kernel)
  unfold P_X3_beginAnew at h
  refine lv_iconst (v := 0) hx hb dX3_beginAnew_0 (by decide) ?_
  refine lv_istore (lv' := [(4, .int (0 : Int32)), (0, .ref h0), (1, .int x1), (2, .int x2), (3, .int x3)]) hx hb dX3_beginAnew_1 hl (by decide) rfl (fun ls hl => ?_)
  obtain ⟨K_3, hKi_3, h⟩ := jnE1 h
  have hK_3 : ∀ (u_5 : St), K_3 u_5 → ∀ (H : Heap) (locs : List Loc), va_P (dC, dI) vwCl (wS h0 h1 h2 cI u_5) H → va_S A s.heap H locs → ∀ (ls : Array Slot), lv_has ls 5 [(0, .ref h0), (1, .int x1), (2, .int x2), (3, .int x3)] → W p l e (headSpec wsX3_beginAnew ({ frames := 0, cells := 0, slots := 0, locals := 0 } : Room)).room s m ([.ref h0, .int x1, .int x2, .int x3] : List Value).toArray below meth c H locs 0 0 (MQ below (va_Qv post (fun (u2 : St) (t : State) => va_P (dC, dI) vwCl (wS h0 h1 h2 cI u2) t.heap) A) ([.ref h0, .int x1, .int x2, .int x3] : List Value).toArray s 0 0 A) (F0 m 27 ls []) := by
    intro u_5 h H locs hP hS ls hl
    have h := hKi_3 _ h
    refine lv_aload_n hx hb dX3_beginAnew_27 rfl (lv_at hl 0 rfl) ?_
    refine lv_iload_n hx hb dX3_beginAnew_28 rfl (lv_at hl 1 rfl) ?_
    refine va_put (D := (dC, dI)) (ci := 1) (v := .int x1) (ty := .int) (C := RX3) (T := TX3) (N := 7) hx hb hts i_X3 tyX3 tyX3_ok nmX3 hown hK hP (hD _) hS 0 rfl rfl 2 (by decide) f_18 (fun _ h9 => h9) rfl (by decide +kernel) rfl rfl (Nat.le_of_ble_eq_true rfl) dX3_beginAnew_29 (fun H locs hP _ hS => ?_)
    obtain ⟨u_6, eu_6⟩ : ∃ z : St, z = (upd u_5.1 2 x1, u_5.2) := ⟨_, rfl⟩
    have h := h u_6 eu_6
    have hP : va_P (dC, dI) vwCl (wS h0 h1 h2 cI u_6) H := by rw [eu_6]; exact hP
    refine lv_aload_n hx hb dX3_beginAnew_32 rfl (lv_at hl 0 rfl) ?_
    refine lv_iload_n hx hb dX3_beginAnew_33 rfl (lv_at hl 2 rfl) ?_
    refine va_put (D := (dC, dI)) (ci := 1) (v := .int x2) (ty := .int) (C := RX3) (T := TX3) (N := 7) hx hb hts i_X3 tyX3 tyX3_ok nmX3 hown hK hP (hD _) hS 0 rfl rfl 3 (by decide) f_22 (fun _ h9 => h9) rfl (by decide +kernel) rfl rfl (Nat.le_of_ble_eq_true rfl) dX3_beginAnew_34 (fun H locs hP _ hS => ?_)
    obtain ⟨u_7, eu_7⟩ : ∃ z : St, z = (upd u_6.1 3 x2, u_6.2) := ⟨_, rfl⟩
    have h := h u_7 eu_7
    have hP : va_P (dC, dI) vwCl (wS h0 h1 h2 cI u_7) H := by rw [eu_7]; exact hP
    refine lv_aload_n hx hb dX3_beginAnew_37 rfl (lv_at hl 0 rfl) ?_
    refine lv_iload_n hx hb dX3_beginAnew_38 rfl (lv_at hl 3 rfl) ?_
    refine va_put (D := (dC, dI)) (ci := 1) (v := .int x3) (ty := .int) (C := RX3) (T := TX3) (N := 7) hx hb hts i_X3 tyX3 tyX3_ok nmX3 hown hK hP (hD _) hS 0 rfl rfl 4 (by decide) f_25 (fun _ h9 => h9) rfl (by decide +kernel) rfl rfl (Nat.le_of_ble_eq_true rfl) dX3_beginAnew_39 (fun H locs hP _ hS => ?_)
    obtain ⟨u_8, eu_8⟩ : ∃ z : St, z = (upd u_7.1 4 x3, u_7.2) := ⟨_, rfl⟩
    have h := h u_8 eu_8
    have hP : va_P (dC, dI) vwCl (wS h0 h1 h2 cI u_8) H := by rw [eu_8]; exact hP
    refine lv_aload_n hx hb dX3_beginAnew_42 rfl (lv_at hl 0 rfl) ?_
    refine lv_iconst (v := 0) hx hb dX3_beginAnew_43 (by decide) ?_
    refine va_put (D := (dC, dI)) (ci := 1) (v := .int (0 : Int32)) (ty := .int) (C := RX3) (T := TX3) (N := 7) hx hb hts i_X3 tyX3 tyX3_ok nmX3 hown hK hP (hD _) hS 0 rfl rfl 5 (by decide) f_28 (fun _ h9 => h9) rfl (by decide +kernel) rfl rfl (Nat.le_of_ble_eq_true rfl) dX3_beginAnew_44 (fun H locs hP _ hS => ?_)
    obtain ⟨u_9, eu_9⟩ : ∃ z : St, z = (upd u_8.1 5 (0 : Int32), u_8.2) := ⟨_, rfl⟩
    have h := h u_9 eu_9
    have hP : va_P (dC, dI) vwCl (wS h0 h1 h2 cI u_9) H := by rw [eu_9]; exact hP
    refine lv_aload_n hx hb dX3_beginAnew_47 rfl (lv_at hl 0 rfl) ?_
    refine lv_iconst (v := 0) hx hb dX3_beginAnew_48 (by decide) ?_
    refine va_put (D := (dC, dI)) (ci := 1) (v := .int (0 : Int32)) (ty := .int) (C := RX3) (T := TX3) (N := 7) hx hb hts i_X3 tyX3 tyX3_ok nmX3 hown hK hP (hD _) hS 0 rfl rfl 6 (by decide) f_31 (fun _ h9 => h9) rfl (by decide +kernel) rfl rfl (Nat.le_of_ble_eq_true rfl) dX3_beginAnew_49 (fun H locs hP _ hS => ?_)
    obtain ⟨u_10, eu_10⟩ : ∃ z : St, z = (upd u_9.1 6 (0 : Int32), u_9.2) := ⟨_, rfl⟩
    have h := h u_10 eu_10
    have hP : va_P (dC, dI) vwCl (wS h0 h1 h2 cI u_10) H := by rw [eu_10]; exact hP
    exact W.vret hx hb hr (fun t ht _ => ⟨⟨u_10, rfl, h, hPr ht hP⟩, hS.F ht⟩) hS.2.2 dX3_beginAnew_52
  obtain ⟨n, h⟩ := h
  have loop_3 : ∀ (n : Nat) (v4_1 : Int32) (u_2 : St), L_X3_beginAnew_3 post K_3 n v4_1 u_2 → ∀ (H : Heap) (locs : List Loc), va_P (dC, dI) vwCl (wS h0 h1 h2 cI u_2) H → va_S A s.heap H locs → ∀ (ls : Array Slot), lv_has ls 5 [(0, .ref h0), (1, .int x1), (2, .int x2), (3, .int x3), (4, .int v4_1)] → W p l e (headSpec wsX3_beginAnew ({ frames := 0, cells := 0, slots := 0, locals := 0 } : Room)).room s m ([.ref h0, .int x1, .int x2, .int x3] : List Value).toArray below meth c H locs 0 0 (MQ below (va_Qv post (fun (u2 : St) (t : State) => va_P (dC, dI) vwCl (wS h0 h1 h2 cI u2) t.heap) A) ([.ref h0, .int x1, .int x2, .int x3] : List Value).toArray s 0 0 A) (F0 m 3 ls []) := by
    intro n
    induction n with
    | zero => intro v4_1 u_2 h; rw [L_X3_beginAnew_3] at h; exact h.elim
    | succ n ih_3 =>
      intro v4_1 u_2 h H locs hP hS ls hl
      rw [L_X3_beginAnew_3] at h
      refine lv_iload hx hb dX3_beginAnew_3 (lv_at hl 4 rfl) ?_
      refine lv_aload_n hx hb dX3_beginAnew_5 rfl (lv_at hl 0 rfl) ?_
      refine va_get (D := (dC, dI)) (ci := 1) (v := .ref h1) (C := RX3) (T := TX3) (N := 7) hx hb hts i_X3 hown hK hP 0 rfl rfl 0 (by decide) f_11 (fun _ h9 => h9) rfl dX3_beginAnew_6 ?_
      refine va_alen (v := 64) hx hb hK hP 1 0 rfl rfl rfl dX3_beginAnew_9 ?_
      refine lv_icmp_ge (tgt := 27) hx hb dX3_beginAnew_10 (by decide) (fun c_10 => ?_) (fun c_10 => ?_)
      · have h := br1 h c_10
        exact hK_3 _ h _ _ hP hS _ (lv_sub hl [0, 1, 2, 3] rfl)
      · have h := br2 h c_10
        refine lv_aload_n hx hb dX3_beginAnew_13 rfl (lv_at hl 0 rfl) ?_
        refine va_get (D := (dC, dI)) (ci := 1) (v := .ref h1) (C := RX3) (T := TX3) (N := 7) hx hb hts i_X3 hown hK hP 0 rfl rfl 0 (by decide) f_11 (fun _ h9 => h9) rfl dX3_beginAnew_14 ?_
        refine lv_iload hx hb dX3_beginAnew_17 (lv_at hl 4 rfl) ?_
        refine lv_iconst (v := 0) hx hb dX3_beginAnew_19 (by decide) ?_
        obtain ⟨hi, h⟩ := h
        refine va_iast hx hb hK hP (hD _) hS 1 0 rfl rfl hi dX3_beginAnew_20 (fun H locs hP _ hS => ?_)
        obtain ⟨u_3, eu_3⟩ : ∃ z : St, z = (u_2.1, va_up u_2.2 0 (upd (u_2.2 0) v4_1.toNatClampNeg (0 : Int32))) := ⟨_, rfl⟩
        have h := h u_3 eu_3
        have hP : va_P (dC, dI) vwCl (wS h0 h1 h2 cI u_3) H := by rw [eu_3]; exact hP
        obtain ⟨y_4, ey_4⟩ : ∃ z : Int32, z = v4_1 + (1 : Int32) := ⟨_, rfl⟩
        have h := h y_4 ey_4
        refine lv_iinc (v := y_4) (lv' := [(4, .int y_4), (0, .ref h0), (1, .int x1), (2, .int x2), (3, .int x3)]) hx hb dX3_beginAnew_21 hl (k := 4) rfl (by rw [ey_4]; rfl) (by decide) rfl (fun ls hl => ?_)
        refine lv_goto (tgt := 3) hx hb dX3_beginAnew_24 (by decide) ?_
        exact ih_3 _ _ h _ _ hP hS _ (lv_sub hl [1, 2, 3, 4, 0] rfl)
  exact loop_3 n _ _ h _ _ hP hS _ (lv_sub hl [1, 2, 3, 4, 0] rfl)
set_option maxHeartbeats 4000000 in
set_option maxRecDepth 100000 in
theorem c_X3_hasColumn (l : Launch) (dC : Nat → ClassId) (dI : Nat → Nat → Nat) (h0 h1 h2 : Nat) (cI : ClassId) {u : St} {x1 : Int32} {x2 : Int32} {post : Int32 → Prop} (h : P_X3_hasColumn u x1 x2 post) : Met l yX3_hasColumn wsX3_hasColumn ({ frames := 0, cells := 0, slots := 0, locals := 0 } : Room) (RPre (dC, dI) vwCl (wS h0 h1 h2 cI u) [(cI, .int)] [.ref h0, .int x1, .int x2]) (vp_Si post) 0 0 (fun _ => False) := by
  refine Met.ofW (cc := cX3_hasColumn) (maxL := 3) (ret := (some .boolean)) (by decide) rfl ?_
  intro p e s m args below meth c s₁ B hml hv
  obtain ⟨rfl, hP, hK⟩ := hv
  have hx := B.exec
  have hb := B.bytes
  have hr := B.returns
  have hts := atoms_spec (ws := wsX3_hasColumn) B.pre
  have hown : s.vm.findClass RX3 = some m.cls := findClass_of_methodNamed B.named
  have hlocks := B.notSynchronized
  have hl := lv_entry ([.ref h0, .int x1, .int x2]) (n := 3) (Nat.le_of_ble_eq_true rfl)
  rw [lg_entry_eq]
  generalize (lg_sl ([.ref h0, .int x1, .int x2]) ++ List.replicate (3 - (lg_sl ([.ref h0, .int x1, .int x2])).length) Slot.unset).toArray = ls at hl ⊢
  have hl : lv_has ls 3 [(0, .ref h0), (1, .int x1), (2, .int x2)] := hl
  have i_X3 : ∀ w ∈ u_ws RX3 TX3 7, w ∈ wsX3_hasColumn := by decide +kernel
  have f_18 := hts (.fieldLink RX3 18 "SliceBody$Solid" "wide" "I") (by decide +kernel)
  have f_22 := hts (.fieldLink RX3 22 "SliceBody$Solid" "deep" "I") (by decide +kernel)
  unfold P_X3_hasColumn at h
  refine lv_iload_n hx hb dX3_hasColumn_0 rfl (lv_at hl 1 rfl) ?_
  refine lv_if_lt (tgt := 28) hx hb dX3_hasColumn_1 (by decide) (fun c_1 => ?_) (fun c_1 => ?_)
  · have h := br1 h c_1
    refine lv_iconst (v := 0) hx hb dX3_hasColumn_28 (by decide) ?_
    exact W.zret (ty := .boolean) hx hb hr rfl (fun t ht _ => ⟨_, rfl, h, ht⟩) (fun q hq => by cases hq) dX3_hasColumn_29
  · have h := br2 h c_1
    refine lv_iload_n hx hb dX3_hasColumn_4 rfl (lv_at hl 1 rfl) ?_
    refine lv_aload_n hx hb dX3_hasColumn_5 rfl (lv_at hl 0 rfl) ?_
    refine va_get (D := (dC, dI)) (ci := 1) (v := .int (u.1 2)) (C := RX3) (T := TX3) (N := 7) hx hb hts i_X3 hown hK hP 0 rfl rfl 2 (by decide) f_18 (fun _ h9 => h9) rfl dX3_hasColumn_6 ?_
    refine lv_icmp_ge (tgt := 28) hx hb dX3_hasColumn_9 (by decide) (fun c_9 => ?_) (fun c_9 => ?_)
    · have h := br1 h c_9
      refine lv_iconst (v := 0) hx hb dX3_hasColumn_28 (by decide) ?_
      exact W.zret (ty := .boolean) hx hb hr rfl (fun t ht _ => ⟨_, rfl, h, ht⟩) (fun q hq => by cases hq) dX3_hasColumn_29
    · have h := br2 h c_9
      refine lv_iload_n hx hb dX3_hasColumn_12 rfl (lv_at hl 2 rfl) ?_
      refine lv_if_lt (tgt := 28) hx hb dX3_hasColumn_13 (by decide) (fun c_13 => ?_) (fun c_13 => ?_)
      · have h := br1 h c_13
        refine lv_iconst (v := 0) hx hb dX3_hasColumn_28 (by decide) ?_
        exact W.zret (ty := .boolean) hx hb hr rfl (fun t ht _ => ⟨_, rfl, h, ht⟩) (fun q hq => by cases hq) dX3_hasColumn_29
      · have h := br2 h c_13
        refine lv_iload_n hx hb dX3_hasColumn_16 rfl (lv_at hl 2 rfl) ?_
        refine lv_aload_n hx hb dX3_hasColumn_17 rfl (lv_at hl 0 rfl) ?_
        refine va_get (D := (dC, dI)) (ci := 1) (v := .int (u.1 3)) (C := RX3) (T := TX3) (N := 7) hx hb hts i_X3 hown hK hP 0 rfl rfl 3 (by decide) f_22 (fun _ h9 => h9) rfl dX3_hasColumn_18 ?_
        refine lv_icmp_ge (tgt := 28) hx hb dX3_hasColumn_21 (by decide) (fun c_21 => ?_) (fun c_21 => ?_)
        · have h := br1 h c_21
          refine lv_iconst (v := 0) hx hb dX3_hasColumn_28 (by decide) ?_
          exact W.zret (ty := .boolean) hx hb hr rfl (fun t ht _ => ⟨_, rfl, h, ht⟩) (fun q hq => by cases hq) dX3_hasColumn_29
        · have h := br2 h c_21
          refine lv_iconst (v := 1) hx hb dX3_hasColumn_24 (by decide) ?_
          refine lv_goto (tgt := 29) hx hb dX3_hasColumn_25 (by decide) ?_
          exact W.zret (ty := .boolean) hx hb hr rfl (fun t ht _ => ⟨_, rfl, h, ht⟩) (fun q hq => by cases hq) dX3_hasColumn_29
set_option maxHeartbeats 4000000 in
set_option maxRecDepth 100000 in
theorem c_X3_hasLayer (l : Launch) (dC : Nat → ClassId) (dI : Nat → Nat → Nat) (h0 h1 h2 : Nat) (cI : ClassId) {u : St} {x1 : Int32} {post : Int32 → Prop} (h : P_X3_hasLayer u x1 post) : Met l yX3_hasLayer wsX3_hasLayer ({ frames := 0, cells := 0, slots := 0, locals := 0 } : Room) (RPre (dC, dI) vwCl (wS h0 h1 h2 cI u) [(cI, .int)] [.ref h0, .int x1]) (vp_Si post) 0 0 (fun _ => False) := by
  refine Met.ofW (cc := cX3_hasLayer) (maxL := 2) (ret := (some .boolean)) (by decide) rfl ?_
  intro p e s m args below meth c s₁ B hml hv
  obtain ⟨rfl, hP, hK⟩ := hv
  have hx := B.exec
  have hb := B.bytes
  have hr := B.returns
  have hts := atoms_spec (ws := wsX3_hasLayer) B.pre
  have hown : s.vm.findClass RX3 = some m.cls := findClass_of_methodNamed B.named
  have hlocks := B.notSynchronized
  have hl := lv_entry ([.ref h0, .int x1]) (n := 2) (Nat.le_of_ble_eq_true rfl)
  rw [lg_entry_eq]
  generalize (lg_sl ([.ref h0, .int x1]) ++ List.replicate (2 - (lg_sl ([.ref h0, .int x1])).length) Slot.unset).toArray = ls at hl ⊢
  have hl : lv_has ls 2 [(0, .ref h0), (1, .int x1)] := hl
  have i_X3 : ∀ w ∈ u_ws RX3 TX3 7, w ∈ wsX3_hasLayer := by decide +kernel
  have f_25 := hts (.fieldLink RX3 25 "SliceBody$Solid" "high" "I") (by decide +kernel)
  unfold P_X3_hasLayer at h
  refine lv_iload_n hx hb dX3_hasLayer_0 rfl (lv_at hl 1 rfl) ?_
  refine lv_if_lt (tgt := 16) hx hb dX3_hasLayer_1 (by decide) (fun c_1 => ?_) (fun c_1 => ?_)
  · have h := br1 h c_1
    refine lv_iconst (v := 0) hx hb dX3_hasLayer_16 (by decide) ?_
    exact W.zret (ty := .boolean) hx hb hr rfl (fun t ht _ => ⟨_, rfl, h, ht⟩) (fun q hq => by cases hq) dX3_hasLayer_17
  · have h := br2 h c_1
    refine lv_iload_n hx hb dX3_hasLayer_4 rfl (lv_at hl 1 rfl) ?_
    refine lv_aload_n hx hb dX3_hasLayer_5 rfl (lv_at hl 0 rfl) ?_
    refine va_get (D := (dC, dI)) (ci := 1) (v := .int (u.1 4)) (C := RX3) (T := TX3) (N := 7) hx hb hts i_X3 hown hK hP 0 rfl rfl 4 (by decide) f_25 (fun _ h9 => h9) rfl dX3_hasLayer_6 ?_
    refine lv_icmp_ge (tgt := 16) hx hb dX3_hasLayer_9 (by decide) (fun c_9 => ?_) (fun c_9 => ?_)
    · have h := br1 h c_9
      refine lv_iconst (v := 0) hx hb dX3_hasLayer_16 (by decide) ?_
      exact W.zret (ty := .boolean) hx hb hr rfl (fun t ht _ => ⟨_, rfl, h, ht⟩) (fun q hq => by cases hq) dX3_hasLayer_17
    · have h := br2 h c_9
      refine lv_iconst (v := 1) hx hb dX3_hasLayer_12 (by decide) ?_
      refine lv_goto (tgt := 17) hx hb dX3_hasLayer_13 (by decide) ?_
      exact W.zret (ty := .boolean) hx hb hr rfl (fun t ht _ => ⟨_, rfl, h, ht⟩) (fun q hq => by cases hq) dX3_hasLayer_17
set_option maxHeartbeats 4000000 in
set_option maxRecDepth 100000 in
theorem c_X3_ribCount (l : Launch) (dC : Nat → ClassId) (dI : Nat → Nat → Nat) (h0 h1 h2 : Nat) (cI : ClassId) {u : St} {x1 : Int32} {post : Int32 → Prop} (h : P_X3_ribCount u x1 post) : Met l yX3_ribCount wsX3_ribCount ({ frames := 0, cells := 0, slots := 0, locals := 0 } : Room) (RPre (dC, dI) vwCl (wS h0 h1 h2 cI u) [(cI, .int)] [.ref h0, .int x1]) (vp_Si post) 0 0 (fun _ => False) := by
  refine Met.ofW (cc := cX3_ribCount) (maxL := 2) (ret := (some .int)) (by decide) rfl ?_
  intro p e s m args below meth c s₁ B hml hv
  obtain ⟨rfl, hP, hK⟩ := hv
  have hx := B.exec
  have hb := B.bytes
  have hr := B.returns
  have hts := atoms_spec (ws := wsX3_ribCount) B.pre
  have hown : s.vm.findClass RX3 = some m.cls := findClass_of_methodNamed B.named
  have hlocks := B.notSynchronized
  have hl := lv_entry ([.ref h0, .int x1]) (n := 2) (Nat.le_of_ble_eq_true rfl)
  rw [lg_entry_eq]
  generalize (lg_sl ([.ref h0, .int x1]) ++ List.replicate (2 - (lg_sl ([.ref h0, .int x1])).length) Slot.unset).toArray = ls at hl ⊢
  have hl : lv_has ls 2 [(0, .ref h0), (1, .int x1)] := hl
  have i_X3 : ∀ w ∈ u_ws RX3 TX3 7, w ∈ wsX3_ribCount := by decide +kernel
  have f_18 := hts (.fieldLink RX3 18 "SliceBody$Solid" "wide" "I") (by decide +kernel)
  have f_22 := hts (.fieldLink RX3 22 "SliceBody$Solid" "deep" "I") (by decide +kernel)
  unfold P_X3_ribCount at h
  refine lv_iload_n hx hb dX3_ribCount_0 rfl (lv_at hl 1 rfl) ?_
  refine lv_if_ne (tgt := 11) hx hb dX3_ribCount_1 (by decide) (fun c_1 => ?_) (fun c_1 => ?_)
  · have h := br2 h c_1
    refine lv_aload_n hx hb dX3_ribCount_11 rfl (lv_at hl 0 rfl) ?_
    refine va_get (D := (dC, dI)) (ci := 1) (v := .int (u.1 3)) (C := RX3) (T := TX3) (N := 7) hx hb hts i_X3 hown hK hP 0 rfl rfl 3 (by decide) f_22 (fun _ h9 => h9) rfl dX3_ribCount_12 ?_
    exact W.iret hx hb hr (fun t ht _ => ⟨_, rfl, h, ht⟩) (fun q hq => by cases hq) dX3_ribCount_15
  · have h := br1 h c_1
    refine lv_aload_n hx hb dX3_ribCount_4 rfl (lv_at hl 0 rfl) ?_
    refine va_get (D := (dC, dI)) (ci := 1) (v := .int (u.1 2)) (C := RX3) (T := TX3) (N := 7) hx hb hts i_X3 hown hK hP 0 rfl rfl 2 (by decide) f_18 (fun _ h9 => h9) rfl dX3_ribCount_5 ?_
    refine lv_goto (tgt := 15) hx hb dX3_ribCount_8 (by decide) ?_
    exact W.iret hx hb hr (fun t ht _ => ⟨_, rfl, h, ht⟩) (fun q hq => by cases hq) dX3_ribCount_15
set_option maxHeartbeats 4000000 in
set_option maxRecDepth 100000 in
theorem c_X3_hasRib (l : Launch) (dC : Nat → ClassId) (dI : Nat → Nat → Nat) (h0 h1 h2 : Nat) (cI : ClassId) {u : St} {x1 : Int32} {x2 : Int32} {post : Int32 → Prop} (h : P_X3_hasRib u x1 x2 post) : Met l yX3_hasRib wsX3_hasRib ({ frames := 1, cells := 0, slots := 0, locals := 21 } : Room) (RPre (dC, dI) vwCl (wS h0 h1 h2 cI u) [(cI, .int)] [.ref h0, .int x1, .int x2]) (vp_Si post) 0 0 (fun _ => False) := by
  refine Met.ofW (cc := cX3_hasRib) (maxL := 3) (ret := (some .boolean)) (by decide) rfl ?_
  intro p e s m args below meth c s₁ B hml hv
  obtain ⟨rfl, hP, hK⟩ := hv
  have hx := B.exec
  have hb := B.bytes
  have hr := B.returns
  have hts := atoms_spec (ws := wsX3_hasRib) B.pre
  have hown : s.vm.findClass RX3 = some m.cls := findClass_of_methodNamed B.named
  have hlocks := B.notSynchronized
  have hl := lv_entry ([.ref h0, .int x1, .int x2]) (n := 3) (Nat.le_of_ble_eq_true rfl)
  rw [lg_entry_eq]
  generalize (lg_sl ([.ref h0, .int x1, .int x2]) ++ List.replicate (3 - (lg_sl ([.ref h0, .int x1, .int x2])).length) Slot.unset).toArray = ls at hl ⊢
  have hl : lv_has ls 3 [(0, .ref h0), (1, .int x1), (2, .int x2)] := hl
  unfold P_X3_hasRib at h
  refine lv_iload_n hx hb dX3_hasRib_0 rfl (lv_at hl 1 rfl) ?_
  obtain ⟨J_9, hJi_9, h⟩ := jnE0 h
  have hJ_9 : J_9 → ∀ (ls : Array Slot), lv_has ls 3 [(0, .ref h0), (1, .int x1), (2, .int x2)] → W p l e (headSpec wsX3_hasRib ({ frames := 1, cells := 0, slots := 0, locals := 21 } : Room)).room s m ([.ref h0, .int x1, .int x2] : List Value).toArray below meth c s.heap [] 0 0 (MQ below (vp_Si post) ([.ref h0, .int x1, .int x2] : List Value).toArray s 0 0 (fun _ => False)) (F0 m 9 ls []) := by
    intro  h ls hl
    have h := hJi_9 h
    refine lv_iload_n hx hb dX3_hasRib_9 rfl (lv_at hl 2 rfl) ?_
    refine lv_if_lt (tgt := 26) hx hb dX3_hasRib_10 (by decide) (fun c_10 => ?_) (fun c_10 => ?_)
    · have h := br1 h c_10
      refine lv_iconst (v := 0) hx hb dX3_hasRib_26 (by decide) ?_
      exact W.zret (ty := .boolean) hx hb hr rfl (fun t ht _ => ⟨_, rfl, h, ht⟩) (fun q hq => by cases hq) dX3_hasRib_27
    · have h := br2 h c_10
      refine lv_iload_n hx hb dX3_hasRib_13 rfl (lv_at hl 2 rfl) ?_
      refine lv_aload_n hx hb dX3_hasRib_14 rfl (lv_at hl 0 rfl) ?_
      refine lv_iload_n hx hb dX3_hasRib_15 rfl (lv_at hl 1 rfl) ?_
      refine vp_callSi (W.runV (As := [.int _]) (rest := [.int _]) ⟨hx, hb, hml, hown, hts⟩ (c_X3_ribCount l dC dI h0 h1 h2 cI h) (cwV 1 hts gX3_hasRib_X3_ribCount rfl rfl rfl (by decide +kernel) ⟨Nat.le_of_ble_eq_true rfl, Nat.le_of_ble_eq_true rfl⟩) ⟨fbR, va_recv hK hP (ci := 1) (q0 := 0) rfl rfl, fun U hU hW => ⟨rfl, by rw [hU]; exact hP, va_K.moved hW.alike hK⟩⟩ rfl rfl hl.1 rfl (lv_room (Nat.le_of_ble_eq_true rfl)) dX3_hasRib_16 ⟨Nat.zero_le _, Nat.zero_le _⟩) (fun r_1 h => ?_)
      refine lv_icmp_ge (tgt := 26) hx hb dX3_hasRib_19 (by decide) (fun c_19 => ?_) (fun c_19 => ?_)
      · have h := br1 h c_19
        refine lv_iconst (v := 0) hx hb dX3_hasRib_26 (by decide) ?_
        exact W.zret (ty := .boolean) hx hb hr rfl (fun t ht _ => ⟨_, rfl, h, ht⟩) (fun q hq => by cases hq) dX3_hasRib_27
      · have h := br2 h c_19
        refine lv_iconst (v := 1) hx hb dX3_hasRib_22 (by decide) ?_
        refine lv_goto (tgt := 27) hx hb dX3_hasRib_23 (by decide) ?_
        exact W.zret (ty := .boolean) hx hb hr rfl (fun t ht _ => ⟨_, rfl, h, ht⟩) (fun q hq => by cases hq) dX3_hasRib_27
  refine lv_if_eq (tgt := 9) hx hb dX3_hasRib_1 (by decide) (fun c_1 => ?_) (fun c_1 => ?_)
  · have h := br1 h c_1
    exact hJ_9 h _ (lv_sub hl [0, 1, 2] rfl)
  · have h := br2 h c_1
    refine lv_iload_n hx hb dX3_hasRib_4 rfl (lv_at hl 1 rfl) ?_
    refine lv_iconst (v := 1) hx hb dX3_hasRib_5 (by decide) ?_
    refine lv_icmp_ne (tgt := 26) hx hb dX3_hasRib_6 (by decide) (fun c_6 => ?_) (fun c_6 => ?_)
    · have h := br2 h c_6
      refine lv_iconst (v := 0) hx hb dX3_hasRib_26 (by decide) ?_
      exact W.zret (ty := .boolean) hx hb hr rfl (fun t ht _ => ⟨_, rfl, h, ht⟩) (fun q hq => by cases hq) dX3_hasRib_27
    · have h := br1 h c_6
      exact hJ_9 h _ (lv_sub hl [0, 1, 2] rfl)
set_option maxHeartbeats 4000000 in
set_option maxRecDepth 100000 in
theorem c_X3_columnAt (l : Launch) (dC : Nat → ClassId) (dI : Nat → Nat → Nat) (h0 h1 h2 : Nat) (cI : ClassId) {u : St} {x1 : Int32} {x2 : Int32} {post : Int32 → Prop} (h : P_X3_columnAt u x1 x2 post) : Met l yX3_columnAt wsX3_columnAt ({ frames := 1, cells := 0, slots := 0, locals := 22 } : Room) (RPre (dC, dI) vwCl (wS h0 h1 h2 cI u) [(cI, .int)] [.ref h0, .int x1, .int x2]) (vp_Si post) 0 0 (fun _ => False) := by
  refine Met.ofW (cc := cX3_columnAt) (maxL := 3) (ret := (some .int)) (by decide) rfl ?_
  intro p e s m args below meth c s₁ B hml hv
  obtain ⟨rfl, hP, hK⟩ := hv
  have hx := B.exec
  have hb := B.bytes
  have hr := B.returns
  have hts := atoms_spec (ws := wsX3_columnAt) B.pre
  have hown : s.vm.findClass RX3 = some m.cls := findClass_of_methodNamed B.named
  have hlocks := B.notSynchronized
  have hl := lv_entry ([.ref h0, .int x1, .int x2]) (n := 3) (Nat.le_of_ble_eq_true rfl)
  rw [lg_entry_eq]
  generalize (lg_sl ([.ref h0, .int x1, .int x2]) ++ List.replicate (3 - (lg_sl ([.ref h0, .int x1, .int x2])).length) Slot.unset).toArray = ls at hl ⊢
  have hl : lv_has ls 3 [(0, .ref h0), (1, .int x1), (2, .int x2)] := hl
  have i_X3 : ∀ w ∈ u_ws RX3 TX3 7, w ∈ wsX3_columnAt := by decide +kernel
  have f_11 := hts (.fieldLink RX3 11 "SliceBody$Solid" "columns" "[I") (by decide +kernel)
  unfold P_X3_columnAt at h
  refine lv_aload_n hx hb dX3_columnAt_0 rfl (lv_at hl 0 rfl) ?_
  refine lv_iload_n hx hb dX3_columnAt_1 rfl (lv_at hl 1 rfl) ?_
  refine lv_iload_n hx hb dX3_columnAt_2 rfl (lv_at hl 2 rfl) ?_
  refine vp_callSi (W.runV (As := [.int _, .int _]) (rest := []) ⟨hx, hb, hml, hown, hts⟩ (c_X3_hasColumn l dC dI h0 h1 h2 cI h) (cwV 2 hts gX3_columnAt_X3_hasColumn rfl rfl rfl (by decide +kernel) ⟨Nat.le_of_ble_eq_true rfl, Nat.le_of_ble_eq_true rfl⟩) ⟨fbR, va_recv hK hP (ci := 1) (q0 := 0) rfl rfl, fun U hU hW => ⟨rfl, by rw [hU]; exact hP, va_K.moved hW.alike hK⟩⟩ rfl rfl hl.1 rfl (lv_room (Nat.le_of_ble_eq_true rfl)) dX3_columnAt_3 ⟨Nat.zero_le _, Nat.zero_le _⟩) (fun r_1 h => ?_)
  refine lv_if_eq (tgt := 23) hx hb dX3_columnAt_6 (by decide) (fun c_6 => ?_) (fun c_6 => ?_)
  · have h := br1 h c_6
    refine lv_iconst (v := 0) hx hb dX3_columnAt_23 (by decide) ?_
    exact W.iret hx hb hr (fun t ht _ => ⟨_, rfl, h, ht⟩) (fun q hq => by cases hq) dX3_columnAt_24
  · have h := br2 h c_6
    refine lv_aload_n hx hb dX3_columnAt_9 rfl (lv_at hl 0 rfl) ?_
    refine va_get (D := (dC, dI)) (ci := 1) (v := .ref h1) (C := RX3) (T := TX3) (N := 7) hx hb hts i_X3 hown hK hP 0 rfl rfl 0 (by decide) f_11 (fun _ h9 => h9) rfl dX3_columnAt_10 ?_
    refine lv_bipush (v := 8) hx hb dX3_columnAt_13 (by decide) ?_
    refine lv_iload_n hx hb dX3_columnAt_15 rfl (lv_at hl 1 rfl) ?_
    refine lv_imul hx hb dX3_columnAt_16 ?_
    refine lv_iload_n hx hb dX3_columnAt_17 rfl (lv_at hl 2 rfl) ?_
    refine lv_iadd hx hb dX3_columnAt_18 ?_
    obtain ⟨hi, h⟩ := h
    refine va_iald hx hb hK hP 1 0 rfl rfl hi dX3_columnAt_19 ?_
    refine lv_goto (tgt := 24) hx hb dX3_columnAt_20 (by decide) ?_
    exact W.iret hx hb hr (fun t ht _ => ⟨_, rfl, h, ht⟩) (fun q hq => by cases hq) dX3_columnAt_24
set_option maxHeartbeats 4000000 in
set_option maxRecDepth 100000 in
theorem c_X3_changeColumn (l : Launch) (dC : Nat → ClassId) (dI : Nat → Nat → Nat) (h0 h1 h2 : Nat) (cI : ClassId) (sz : Nat) {u : St} {x1 : Int32} {x2 : Int32} {x3 : Int32} {x4 : Int32} {post : Int32 → St → Prop} (h : P_X3_changeColumn u x1 x2 x3 x4 post) : Met l yX3_changeColumn wsX3_changeColumn ({ frames := 2, cells := 0, slots := 0, locals := 44 } : Room) (MPre (dC, dI) vwCl (wS h0 h1 h2 cI u) [(cI, .int)] sz [.ref h0, .int x1, .int x2, .int x3, .int x4]) (va_Qi post (fun (u2 : St) (t : State) => va_P (dC, dI) vwCl (wS h0 h1 h2 cI u2) t.heap) (va_A (wS h0 h1 h2 cI u) sz)) 0 0 (va_A (wS h0 h1 h2 cI u) sz) := by
  refine Met.ofW (cc := cX3_changeColumn) (maxL := 7) (ret := (some .int)) (by decide) rfl ?_
  intro p e s m args below meth c s₁ B hml hv
  obtain ⟨rfl, hsz, hP, hK, hD0⟩ := hv
  have hx := B.exec
  have hb := B.bytes
  have hr := B.returns
  have hts := atoms_spec (ws := wsX3_changeColumn) B.pre
  have hown : s.vm.findClass RX3 = some m.cls := findClass_of_methodNamed B.named
  have hlocks := B.notSynchronized
  subst hsz
  have hD1 := hD0.self (sz := s.heap.size)
  generalize hAe : va_A (wS h0 h1 h2 cI u) s.heap.size = A at hD1 ⊢
  have hA : ∀ q : Nat, s.heap.size ≤ q → A q := fun q h => by rw [← hAe]; exact Or.inr h
  have hD : ∀ z, va_D A (wS h0 h1 h2 cI z) := fun z => va_Dsame hD1 rfl
  have hS : va_S A s.heap s.heap [] := va_S.rf
  have hl := lv_entry ([.ref h0, .int x1, .int x2, .int x3, .int x4]) (n := 7) (Nat.le_of_ble_eq_true rfl)
  rw [lg_entry_eq]
  generalize (lg_sl ([.ref h0, .int x1, .int x2, .int x3, .int x4]) ++ List.replicate (7 - (lg_sl ([.ref h0, .int x1, .int x2, .int x3, .int x4])).length) Slot.unset).toArray = ls at hl ⊢
  have hl : lv_has ls 7 [(0, .ref h0), (1, .int x1), (2, .int x2), (3, .int x3), (4, .int x4)] := hl
  have i_X3 : ∀ w ∈ u_ws RX3 TX3 7, w ∈ wsX3_changeColumn := by decide +kernel
  have f_11 := hts (.fieldLink RX3 11 "SliceBody$Solid" "columns" "[I") (by decide +kernel)
  unfold P_X3_changeColumn at h
  refine lv_aload_n hx hb dX3_changeColumn_0 rfl (lv_at hl 0 rfl) ?_
  refine lv_iload_n hx hb dX3_changeColumn_1 rfl (lv_at hl 1 rfl) ?_
  refine lv_iload_n hx hb dX3_changeColumn_2 rfl (lv_at hl 2 rfl) ?_
  refine vp_callSi (W.runV (As := [.int _, .int _]) (rest := []) ⟨hx, hb, hml, hown, hts⟩ (c_X3_hasColumn l dC dI h0 h1 h2 cI h) (cwV 2 hts gX3_changeColumn_X3_hasColumn rfl rfl rfl (by decide +kernel) ⟨Nat.le_of_ble_eq_true rfl, Nat.le_of_ble_eq_true rfl⟩) ⟨fbR, va_recv hK hP (ci := 1) (q0 := 0) rfl rfl, fun U hU hW => ⟨rfl, by rw [hU]; exact hP, va_K.moved hW.alike hK⟩⟩ rfl rfl hl.1 rfl (lv_room (Nat.le_of_ble_eq_true rfl)) dX3_changeColumn_3 ⟨Nat.zero_le _, Nat.zero_le _⟩) (fun r_1 h => ?_)
  refine lv_if_ne (tgt := 11) hx hb dX3_changeColumn_6 (by decide) (fun c_6 => ?_) (fun c_6 => ?_)
  · have h := br2 h c_6
    refine lv_aload_n hx hb dX3_changeColumn_11 rfl (lv_at hl 0 rfl) ?_
    refine lv_iload_n hx hb dX3_changeColumn_12 rfl (lv_at hl 1 rfl) ?_
    refine lv_iload_n hx hb dX3_changeColumn_13 rfl (lv_at hl 2 rfl) ?_
    refine vp_callSi (W.runV (As := [.int _, .int _]) (rest := []) ⟨hx, hb, hml, hown, hts⟩ (c_X3_columnAt l dC dI h0 h1 h2 cI h) (cwV 2 hts gX3_changeColumn_X3_columnAt rfl rfl rfl (by decide +kernel) ⟨Nat.le_of_ble_eq_true rfl, Nat.le_of_ble_eq_true rfl⟩) ⟨fbR, va_recv hK hP (ci := 1) (q0 := 0) rfl rfl, fun U hU hW => ⟨rfl, by rw [hU]; exact hP, va_K.moved hW.alike hK⟩⟩ rfl rfl hl.1 rfl (lv_room (Nat.le_of_ble_eq_true rfl)) dX3_changeColumn_14 ⟨Nat.zero_le _, Nat.zero_le _⟩) (fun r_2 h => ?_)
    refine lv_istore (lv' := [(5, .int r_2), (0, .ref h0), (1, .int x1), (2, .int x2), (3, .int x3), (4, .int x4)]) hx hb dX3_changeColumn_17 hl (by decide) rfl (fun ls hl => ?_)
    refine lv_iload hx hb dX3_changeColumn_19 (lv_at hl 5 rfl) ?_
    obtain ⟨J_37, hJi_37, h⟩ := jnE1 h
    have hJ_37 : ∀ (w_3 : Int32), J_37 w_3 → ∀ (H : Heap) (locs : List Loc), va_P (dC, dI) vwCl (wS h0 h1 h2 cI u) H → va_S A s.heap H locs → ∀ (ls : Array Slot), lv_has ls 7 [(0, .ref h0), (1, .int x1), (2, .int x2), (5, .int r_2)] → W p l e (headSpec wsX3_changeColumn ({ frames := 2, cells := 0, slots := 0, locals := 44 } : Room)).room s m ([.ref h0, .int x1, .int x2, .int x3, .int x4] : List Value).toArray below meth c H locs 0 0 (MQ below (va_Qi post (fun (u2 : St) (t : State) => va_P (dC, dI) vwCl (wS h0 h1 h2 cI u2) t.heap) A) ([.ref h0, .int x1, .int x2, .int x3, .int x4] : List Value).toArray s 0 0 A) (F0 m 37 ls [.int w_3]) := by
      intro w_3 h H locs hP hS ls hl
      have h := hJi_37 _ h
      refine lv_istore (lv' := [(6, .int w_3), (0, .ref h0), (1, .int x1), (2, .int x2), (5, .int r_2)]) hx hb dX3_changeColumn_37 hl (by decide) rfl (fun ls hl => ?_)
      refine lv_aload_n hx hb dX3_changeColumn_39 rfl (lv_at hl 1 rfl) ?_
      refine va_get (D := (dC, dI)) (ci := 1) (v := .ref h1) (C := RX3) (T := TX3) (N := 7) hx hb hts i_X3 hown hK hP 0 rfl rfl 0 (by decide) f_11 (fun _ h9 => h9) rfl dX3_changeColumn_40 ?_
      refine lv_bipush (v := 8) hx hb dX3_changeColumn_43 (by decide) ?_
      refine lv_iload_n hx hb dX3_changeColumn_45 rfl (lv_at hl 2 rfl) ?_
      refine lv_imul hx hb dX3_changeColumn_46 ?_
      refine lv_iload_n hx hb dX3_changeColumn_47 rfl (lv_at hl 3 rfl) ?_
      refine lv_iadd hx hb dX3_changeColumn_48 ?_
      refine lv_iload hx hb dX3_changeColumn_49 (lv_at hl 0 rfl) ?_
      obtain ⟨hi, h⟩ := h
      refine va_iast hx hb hK hP (hD _) hS 1 0 rfl rfl hi dX3_changeColumn_51 (fun H locs hP _ hS => ?_)
      obtain ⟨u_4, eu_4⟩ : ∃ z : St, z = (u.1, va_up u.2 0 (upd (u.2 0) (((8 : Int32) * x1) + x2).toNatClampNeg w_3)) := ⟨_, rfl⟩
      have h := h u_4 eu_4
      have hP : va_P (dC, dI) vwCl (wS h0 h1 h2 cI u_4) H := by rw [eu_4]; exact hP
      refine lv_iload hx hb dX3_changeColumn_52 (lv_at hl 4 rfl) ?_
      refine lv_iload hx hb dX3_changeColumn_54 (lv_at hl 0 rfl) ?_
      refine lv_ixor hx hb dX3_changeColumn_56 ?_
      refine vp_callSi (W.runS (As := [.int _]) (rest := []) ⟨hx, hb, hml, hown, hts⟩ (c_J6_bitCount_0f7a4 l h) (va_cwS 1 hts gX3_changeColumn_J6_bitCount_0f7a4 rfl rfl rfl (by decide +kernel) ⟨Nat.le_of_ble_eq_true rfl, Nat.le_of_ble_eq_true rfl⟩) ⟨fun _ _ _ _ q => q, fun _ _ _ => ⟨rfl, trivial⟩⟩ rfl rfl hl.1 rfl (lv_room (Nat.le_of_ble_eq_true rfl)) dX3_changeColumn_57 ⟨Nat.zero_le _, Nat.zero_le _⟩) (fun r_5 h => ?_)
      exact W.iret hx hb hr (fun t ht _ => ⟨⟨_, u_4, rfl, h, hPr ht hP⟩, hS.F ht⟩) hS.2.2 dX3_changeColumn_60
    refine lv_if_eq (tgt := 31) hx hb dX3_changeColumn_21 (by decide) (fun c_21 => ?_) (fun c_21 => ?_)
    · have h := br1 h c_21
      refine lv_iload hx hb dX3_changeColumn_31 (lv_at hl 0 rfl) ?_
      refine lv_iload_n hx hb dX3_changeColumn_33 rfl (lv_at hl 4 rfl) ?_
      refine lv_iconst (v := (-1)) hx hb dX3_changeColumn_34 (by decide) ?_
      refine lv_ixor hx hb dX3_changeColumn_35 ?_
      refine lv_iand hx hb dX3_changeColumn_36 ?_
      exact hJ_37 _ h _ _ hP hS _ (lv_sub hl [1, 2, 3, 0] rfl)
    · have h := br2 h c_21
      refine lv_iload hx hb dX3_changeColumn_24 (lv_at hl 0 rfl) ?_
      refine lv_iload_n hx hb dX3_changeColumn_26 rfl (lv_at hl 4 rfl) ?_
      refine lv_ior hx hb dX3_changeColumn_27 ?_
      refine lv_goto (tgt := 37) hx hb dX3_changeColumn_28 (by decide) ?_
      exact hJ_37 _ h _ _ hP hS _ (lv_sub hl [1, 2, 3, 0] rfl)
  · have h := br1 h c_6
    refine lv_iconst (v := 0) hx hb dX3_changeColumn_9 (by decide) ?_
    exact W.iret hx hb hr (fun t ht _ => ⟨⟨_, u, rfl, h, hPr ht hP⟩, hS.F ht⟩) hS.2.2 dX3_changeColumn_10
set_option maxHeartbeats 4000000 in
set_option maxRecDepth 100000 in
theorem c_X3_cubeCount (l : Launch) (dC : Nat → ClassId) (dI : Nat → Nat → Nat) (h0 h1 h2 : Nat) (cI : ClassId) {u : St} {post : Int32 → Prop} (h : P_X3_cubeCount u post) : Met l yX3_cubeCount wsX3_cubeCount ({ frames := 1, cells := 0, slots := 0, locals := 20 } : Room) (RPre (dC, dI) vwCl (wS h0 h1 h2 cI u) [(cI, .int)] [.ref h0]) (vp_Si post) 0 0 (fun _ => False) := by
  refine Met.ofW (cc := cX3_cubeCount) (maxL := 6) (ret := (some .int)) (by decide) rfl ?_
  intro p e s m args below meth c s₁ B hml hv
  obtain ⟨rfl, hP, hK⟩ := hv
  have hx := B.exec
  have hb := B.bytes
  have hr := B.returns
  have hts := atoms_spec (ws := wsX3_cubeCount) B.pre
  have hown : s.vm.findClass RX3 = some m.cls := findClass_of_methodNamed B.named
  have hlocks := B.notSynchronized
  have hl := lv_entry ([.ref h0]) (n := 6) (Nat.le_of_ble_eq_true rfl)
  rw [lg_entry_eq]
  generalize (lg_sl ([.ref h0]) ++ List.replicate (6 - (lg_sl ([.ref h0])).length) Slot.unset).toArray = ls at hl ⊢
  have hl : lv_has ls 6 [(0, .ref h0)] := hl
  have i_X3 : ∀ w ∈ u_ws RX3 TX3 7, w ∈ wsX3_cubeCount := by decide +kernel
  have f_11 := hts (.fieldLink RX3 11 "SliceBody$Solid" "columns" "[I") (by decide +kernel)
  unfold P_X3_cubeCount at h
  refine lv_iconst (v := 0) hx hb dX3_cubeCount_0 (by decide) ?_
  refine lv_istore_n (lv' := [(1, .int (0 : Int32)), (0, .ref h0)]) hx hb dX3_cubeCount_1 rfl hl (by decide) rfl (fun ls hl => ?_)
  refine lv_aload_n hx hb dX3_cubeCount_2 rfl (lv_at hl 1 rfl) ?_
  refine va_get (D := (dC, dI)) (ci := 1) (v := .ref h1) (C := RX3) (T := TX3) (N := 7) hx hb hts i_X3 hown hK hP 0 rfl rfl 0 (by decide) f_11 (fun _ h9 => h9) rfl dX3_cubeCount_3 ?_
  refine lv_astore_n (lv' := [(2, .ref h1), (1, .int (0 : Int32)), (0, .ref h0)]) hx hb dX3_cubeCount_6 rfl hl (by decide) rfl (fun ls hl => ?_)
  refine lv_aload_n hx hb dX3_cubeCount_7 rfl (lv_at hl 0 rfl) ?_
  refine va_alen (v := 64) hx hb hK hP 1 0 rfl rfl rfl dX3_cubeCount_8 ?_
  refine lv_istore_n (lv' := [(3, .int (64 : Int32)), (2, .ref h1), (1, .int (0 : Int32)), (0, .ref h0)]) hx hb dX3_cubeCount_9 rfl hl (by decide) rfl (fun ls hl => ?_)
  refine lv_iconst (v := 0) hx hb dX3_cubeCount_10 (by decide) ?_
  refine lv_istore (lv' := [(4, .int (0 : Int32)), (3, .int (64 : Int32)), (2, .ref h1), (1, .int (0 : Int32)), (0, .ref h0)]) hx hb dX3_cubeCount_11 hl (by decide) rfl (fun ls hl => ?_)
  obtain ⟨K_13, hKi_13, h⟩ := jnE1 h
  have hK_13 : ∀ (v1_7 : Int32), K_13 v1_7 → ∀ (ls : Array Slot), lv_has ls 6 [(1, .int v1_7)] → W p l e (headSpec wsX3_cubeCount ({ frames := 1, cells := 0, slots := 0, locals := 20 } : Room)).room s m ([.ref h0] : List Value).toArray below meth c s.heap [] 0 0 (MQ below (vp_Si post) ([.ref h0] : List Value).toArray s 0 0 (fun _ => False)) (F0 m 39 ls []) := by
    intro v1_7 h ls hl
    have h := hKi_13 _ h
    refine lv_iload_n hx hb dX3_cubeCount_39 rfl (lv_at hl 0 rfl) ?_
    exact W.iret hx hb hr (fun t ht _ => ⟨_, rfl, h, ht⟩) (fun q hq => by cases hq) dX3_cubeCount_40
  obtain ⟨n, h⟩ := h
  have loop_13 : ∀ (n : Nat) (v1_1 : Int32) (v4_2 : Int32), L_X3_cubeCount_13 post K_13 u n v1_1 v4_2 → ∀ (ls : Array Slot), lv_has ls 6 [(1, .int v1_1), (2, .ref h1), (3, .int (64 : Int32)), (4, .int v4_2)] → W p l e (headSpec wsX3_cubeCount ({ frames := 1, cells := 0, slots := 0, locals := 20 } : Room)).room s m ([.ref h0] : List Value).toArray below meth c s.heap [] 0 0 (MQ below (vp_Si post) ([.ref h0] : List Value).toArray s 0 0 (fun _ => False)) (F0 m 13 ls []) := by
    intro n
    induction n with
    | zero => intro v1_1 v4_2 h; rw [L_X3_cubeCount_13] at h; exact h.elim
    | succ n ih_13 =>
      intro v1_1 v4_2 h ls hl
      rw [L_X3_cubeCount_13] at h
      refine lv_iload hx hb dX3_cubeCount_13 (lv_at hl 3 rfl) ?_
      refine lv_iload_n hx hb dX3_cubeCount_15 rfl (lv_at hl 2 rfl) ?_
      refine lv_icmp_ge (tgt := 39) hx hb dX3_cubeCount_16 (by decide) (fun c_16 => ?_) (fun c_16 => ?_)
      · have h := br1 h c_16
        exact hK_13 _ h _ (lv_sub hl [0] rfl)
      · have h := br2 h c_16
        refine lv_aload_n hx hb dX3_cubeCount_19 rfl (lv_at hl 1 rfl) ?_
        refine lv_iload hx hb dX3_cubeCount_20 (lv_at hl 3 rfl) ?_
        obtain ⟨hi, h⟩ := h
        refine va_iald hx hb hK hP 1 0 rfl rfl hi dX3_cubeCount_22 ?_
        refine lv_topi (fun y_3 ey_3 => ?_)
        have h := h y_3 ey_3
        refine lv_istore (lv' := [(5, .int y_3), (1, .int v1_1), (2, .ref h1), (3, .int (64 : Int32)), (4, .int v4_2)]) hx hb dX3_cubeCount_23 hl (by decide) rfl (fun ls hl => ?_)
        refine lv_iload_n hx hb dX3_cubeCount_25 rfl (lv_at hl 1 rfl) ?_
        refine lv_iload hx hb dX3_cubeCount_26 (lv_at hl 0 rfl) ?_
        refine vp_callSi (W.runS (As := [.int _]) (rest := [.int _]) ⟨hx, hb, hml, hown, hts⟩ (c_J6_bitCount_0f7a4 l h) (va_cwS 1 hts gX3_cubeCount_J6_bitCount_0f7a4 rfl rfl rfl (by decide +kernel) ⟨Nat.le_of_ble_eq_true rfl, Nat.le_of_ble_eq_true rfl⟩) ⟨fun _ _ _ _ q => q, fun _ _ _ => ⟨rfl, trivial⟩⟩ rfl rfl hl.1 rfl (lv_room (Nat.le_of_ble_eq_true rfl)) dX3_cubeCount_28 ⟨Nat.zero_le _, Nat.zero_le _⟩) (fun r_4 h => ?_)
        refine lv_iadd hx hb dX3_cubeCount_31 ?_
        refine lv_topi (fun y_5 ey_5 => ?_)
        have h := h y_5 ey_5
        refine lv_istore_n (lv' := [(1, .int y_5), (5, .int y_3), (2, .ref h1), (3, .int (64 : Int32)), (4, .int v4_2)]) hx hb dX3_cubeCount_32 rfl hl (by decide) rfl (fun ls hl => ?_)
        obtain ⟨y_6, ey_6⟩ : ∃ z : Int32, z = v4_2 + (1 : Int32) := ⟨_, rfl⟩
        have h := h y_6 ey_6
        refine lv_iinc (v := y_6) (lv' := [(4, .int y_6), (1, .int y_5), (5, .int y_3), (2, .ref h1), (3, .int (64 : Int32))]) hx hb dX3_cubeCount_33 hl (k := 4) rfl (by rw [ey_6]; rfl) (by decide) rfl (fun ls hl => ?_)
        refine lv_goto (tgt := 13) hx hb dX3_cubeCount_36 (by decide) ?_
        exact ih_13 _ _ h _ (lv_sub hl [1, 3, 4, 0] rfl)
  exact loop_13 n _ _ h _ (lv_sub hl [3, 2, 1, 0] rfl)
set_option maxHeartbeats 4000000 in
set_option maxRecDepth 100000 in
theorem c_X3_chosenBits (l : Launch) (dC : Nat → ClassId) (dI : Nat → Nat → Nat) (h0 h1 h2 : Nat) (cI : ClassId) {u : St} {x1 : Int32} {post : Int32 → Prop} (h : P_X3_chosenBits u x1 post) : Met l yX3_chosenBits wsX3_chosenBits ({ frames := 0, cells := 0, slots := 0, locals := 0 } : Room) (RPre (dC, dI) vwCl (wS h0 h1 h2 cI u) [(cI, .int)] [.ref h0, .int x1]) (vp_Si post) 0 0 (fun _ => False) := by
  refine Met.ofW (cc := cX3_chosenBits) (maxL := 2) (ret := (some .int)) (by decide) rfl ?_
  intro p e s m args below meth c s₁ B hml hv
  obtain ⟨rfl, hP, hK⟩ := hv
  have hx := B.exec
  have hb := B.bytes
  have hr := B.returns
  have hts := atoms_spec (ws := wsX3_chosenBits) B.pre
  have hown : s.vm.findClass RX3 = some m.cls := findClass_of_methodNamed B.named
  have hlocks := B.notSynchronized
  have hl := lv_entry ([.ref h0, .int x1]) (n := 2) (Nat.le_of_ble_eq_true rfl)
  rw [lg_entry_eq]
  generalize (lg_sl ([.ref h0, .int x1]) ++ List.replicate (2 - (lg_sl ([.ref h0, .int x1])).length) Slot.unset).toArray = ls at hl ⊢
  have hl : lv_has ls 2 [(0, .ref h0), (1, .int x1)] := hl
  have i_X3 : ∀ w ∈ u_ws RX3 TX3 7, w ∈ wsX3_chosenBits := by decide +kernel
  have f_28 := hts (.fieldLink RX3 28 "SliceBody$Solid" "chosenAtX" "I") (by decide +kernel)
  have f_31 := hts (.fieldLink RX3 31 "SliceBody$Solid" "chosenAtY" "I") (by decide +kernel)
  unfold P_X3_chosenBits at h
  refine lv_iload_n hx hb dX3_chosenBits_0 rfl (lv_at hl 1 rfl) ?_
  refine lv_if_ne (tgt := 11) hx hb dX3_chosenBits_1 (by decide) (fun c_1 => ?_) (fun c_1 => ?_)
  · have h := br2 h c_1
    refine lv_aload_n hx hb dX3_chosenBits_11 rfl (lv_at hl 0 rfl) ?_
    refine va_get (D := (dC, dI)) (ci := 1) (v := .int (u.1 6)) (C := RX3) (T := TX3) (N := 7) hx hb hts i_X3 hown hK hP 0 rfl rfl 6 (by decide) f_31 (fun _ h9 => h9) rfl dX3_chosenBits_12 ?_
    exact W.iret hx hb hr (fun t ht _ => ⟨_, rfl, h, ht⟩) (fun q hq => by cases hq) dX3_chosenBits_15
  · have h := br1 h c_1
    refine lv_aload_n hx hb dX3_chosenBits_4 rfl (lv_at hl 0 rfl) ?_
    refine va_get (D := (dC, dI)) (ci := 1) (v := .int (u.1 5)) (C := RX3) (T := TX3) (N := 7) hx hb hts i_X3 hown hK hP 0 rfl rfl 5 (by decide) f_28 (fun _ h9 => h9) rfl dX3_chosenBits_5 ?_
    refine lv_goto (tgt := 15) hx hb dX3_chosenBits_8 (by decide) ?_
    exact W.iret hx hb hr (fun t ht _ => ⟨_, rfl, h, ht⟩) (fun q hq => by cases hq) dX3_chosenBits_15
set_option maxHeartbeats 4000000 in
set_option maxRecDepth 100000 in
theorem c_X3_choose (l : Launch) (dC : Nat → ClassId) (dI : Nat → Nat → Nat) (h0 h1 h2 : Nat) (cI : ClassId) (sz : Nat) {u : St} {x1 : Int32} {x2 : Int32} {post : St → Prop} (h : P_X3_choose u x1 x2 post) : Met l yX3_choose wsX3_choose ({ frames := 0, cells := 0, slots := 0, locals := 0 } : Room) (MPre (dC, dI) vwCl (wS h0 h1 h2 cI u) [(cI, .int)] sz [.ref h0, .int x1, .int x2]) (va_Qv post (fun (u2 : St) (t : State) => va_P (dC, dI) vwCl (wS h0 h1 h2 cI u2) t.heap) (va_A (wS h0 h1 h2 cI u) sz)) 0 0 (va_A (wS h0 h1 h2 cI u) sz) := by
  refine Met.ofW (cc := cX3_choose) (maxL := 3) (ret := none) (by decide) rfl ?_
  intro p e s m args below meth c s₁ B hml hv
  obtain ⟨rfl, hsz, hP, hK, hD0⟩ := hv
  have hx := B.exec
  have hb := B.bytes
  have hr := B.returns
  have hts := atoms_spec (ws := wsX3_choose) B.pre
  have hown : s.vm.findClass RX3 = some m.cls := findClass_of_methodNamed B.named
  have hlocks := B.notSynchronized
  subst hsz
  have hD1 := hD0.self (sz := s.heap.size)
  generalize hAe : va_A (wS h0 h1 h2 cI u) s.heap.size = A at hD1 ⊢
  have hA : ∀ q : Nat, s.heap.size ≤ q → A q := fun q h => by rw [← hAe]; exact Or.inr h
  have hD : ∀ z, va_D A (wS h0 h1 h2 cI z) := fun z => va_Dsame hD1 rfl
  have hS : va_S A s.heap s.heap [] := va_S.rf
  have hl := lv_entry ([.ref h0, .int x1, .int x2]) (n := 3) (Nat.le_of_ble_eq_true rfl)
  rw [lg_entry_eq]
  generalize (lg_sl ([.ref h0, .int x1, .int x2]) ++ List.replicate (3 - (lg_sl ([.ref h0, .int x1, .int x2])).length) Slot.unset).toArray = ls at hl ⊢
  have hl : lv_has ls 3 [(0, .ref h0), (1, .int x1), (2, .int x2)] := hl
  have i_X3 : ∀ w ∈ u_ws RX3 TX3 7, w ∈ wsX3_choose := by decide +kernel
  have f_28 := hts (.fieldLink RX3 28 "SliceBody$Solid" "chosenAtX" "I") (by decide +kernel)
  have f_31 := hts (.fieldLink RX3 31 "SliceBody$Solid" "chosenAtY" "I") (by decide +kernel)
  unfold P_X3_choose at h
  refine lv_iload_n hx hb dX3_choose_0 rfl (lv_at hl 1 rfl) ?_
  refine lv_if_ne (tgt := 12) hx hb dX3_choose_1 (by decide) (fun c_1 => ?_) (fun c_1 => ?_)
  · have h := br2 h c_1
    refine lv_aload_n hx hb dX3_choose_12 rfl (lv_at hl 0 rfl) ?_
    refine lv_iload_n hx hb dX3_choose_13 rfl (lv_at hl 2 rfl) ?_
    refine va_put (D := (dC, dI)) (ci := 1) (v := .int x2) (ty := .int) (C := RX3) (T := TX3) (N := 7) hx hb hts i_X3 tyX3 tyX3_ok nmX3 hown hK hP (hD _) hS 0 rfl rfl 6 (by decide) f_31 (fun _ h9 => h9) rfl (by decide +kernel) rfl rfl (Nat.le_of_ble_eq_true rfl) dX3_choose_14 (fun H locs hP _ hS => ?_)
    obtain ⟨u_1, eu_1⟩ : ∃ z : St, z = (upd u.1 6 x2, u.2) := ⟨_, rfl⟩
    have h := h u_1 eu_1
    have hP : va_P (dC, dI) vwCl (wS h0 h1 h2 cI u_1) H := by rw [eu_1]; exact hP
    exact W.vret hx hb hr (fun t ht _ => ⟨⟨u_1, rfl, h, hPr ht hP⟩, hS.F ht⟩) hS.2.2 dX3_choose_17
  · have h := br1 h c_1
    refine lv_aload_n hx hb dX3_choose_4 rfl (lv_at hl 0 rfl) ?_
    refine lv_iload_n hx hb dX3_choose_5 rfl (lv_at hl 2 rfl) ?_
    refine va_put (D := (dC, dI)) (ci := 1) (v := .int x2) (ty := .int) (C := RX3) (T := TX3) (N := 7) hx hb hts i_X3 tyX3 tyX3_ok nmX3 hown hK hP (hD _) hS 0 rfl rfl 5 (by decide) f_28 (fun _ h9 => h9) rfl (by decide +kernel) rfl rfl (Nat.le_of_ble_eq_true rfl) dX3_choose_6 (fun H locs hP _ hS => ?_)
    obtain ⟨u_2, eu_2⟩ : ∃ z : St, z = (upd u.1 5 x2, u.2) := ⟨_, rfl⟩
    have h := h u_2 eu_2
    have hP : va_P (dC, dI) vwCl (wS h0 h1 h2 cI u_2) H := by rw [eu_2]; exact hP
    refine lv_goto (tgt := 17) hx hb dX3_choose_9 (by decide) ?_
    exact W.vret hx hb hr (fun t ht _ => ⟨⟨u_2, rfl, h, hPr ht hP⟩, hS.F ht⟩) hS.2.2 dX3_choose_17
set_option maxHeartbeats 4000000 in
set_option maxRecDepth 100000 in
theorem c_X3_isChosen (l : Launch) (dC : Nat → ClassId) (dI : Nat → Nat → Nat) (h0 h1 h2 : Nat) (cI : ClassId) {u : St} {x1 : Int32} {x2 : Int32} {post : Int32 → Prop} (h : P_X3_isChosen u x1 x2 post) : Met l yX3_isChosen wsX3_isChosen ({ frames := 1, cells := 0, slots := 0, locals := 21 } : Room) (RPre (dC, dI) vwCl (wS h0 h1 h2 cI u) [(cI, .int)] [.ref h0, .int x1, .int x2]) (vp_Si post) 0 0 (fun _ => False) := by
  refine Met.ofW (cc := cX3_isChosen) (maxL := 3) (ret := (some .boolean)) (by decide) rfl ?_
  intro p e s m args below meth c s₁ B hml hv
  obtain ⟨rfl, hP, hK⟩ := hv
  have hx := B.exec
  have hb := B.bytes
  have hr := B.returns
  have hts := atoms_spec (ws := wsX3_isChosen) B.pre
  have hown : s.vm.findClass RX3 = some m.cls := findClass_of_methodNamed B.named
  have hlocks := B.notSynchronized
  have hl := lv_entry ([.ref h0, .int x1, .int x2]) (n := 3) (Nat.le_of_ble_eq_true rfl)
  rw [lg_entry_eq]
  generalize (lg_sl ([.ref h0, .int x1, .int x2]) ++ List.replicate (3 - (lg_sl ([.ref h0, .int x1, .int x2])).length) Slot.unset).toArray = ls at hl ⊢
  have hl : lv_has ls 3 [(0, .ref h0), (1, .int x1), (2, .int x2)] := hl
  unfold P_X3_isChosen at h
  refine lv_aload_n hx hb dX3_isChosen_0 rfl (lv_at hl 0 rfl) ?_
  refine lv_iload_n hx hb dX3_isChosen_1 rfl (lv_at hl 1 rfl) ?_
  refine vp_callSi (W.runV (As := [.int _]) (rest := []) ⟨hx, hb, hml, hown, hts⟩ (c_X3_chosenBits l dC dI h0 h1 h2 cI h) (cwV 1 hts gX3_isChosen_X3_chosenBits rfl rfl rfl (by decide +kernel) ⟨Nat.le_of_ble_eq_true rfl, Nat.le_of_ble_eq_true rfl⟩) ⟨fbR, va_recv hK hP (ci := 1) (q0 := 0) rfl rfl, fun U hU hW => ⟨rfl, by rw [hU]; exact hP, va_K.moved hW.alike hK⟩⟩ rfl rfl hl.1 rfl (lv_room (Nat.le_of_ble_eq_true rfl)) dX3_isChosen_2 ⟨Nat.zero_le _, Nat.zero_le _⟩) (fun r_1 h => ?_)
  refine lv_iload_n hx hb dX3_isChosen_5 rfl (lv_at hl 2 rfl) ?_
  refine vp_callSi (W.runS (As := [.int _, .int _]) (rest := []) ⟨hx, hb, hml, hown, hts⟩ (c_X1_hasBit l h) (va_cwS 2 hts gX3_isChosen_X1_hasBit rfl rfl rfl (by decide +kernel) ⟨Nat.le_of_ble_eq_true rfl, Nat.le_of_ble_eq_true rfl⟩) ⟨fun _ _ _ _ q => q, fun _ _ _ => ⟨rfl, trivial⟩⟩ rfl rfl hl.1 rfl (lv_room (Nat.le_of_ble_eq_true rfl)) dX3_isChosen_6 ⟨Nat.zero_le _, Nat.zero_le _⟩) (fun r_2 h => ?_)
  obtain ⟨hn, h⟩ := h
  exact W.zret (ty := .boolean) hx hb hr hn (fun t ht _ => ⟨_, rfl, h, ht⟩) (fun q hq => by cases hq) dX3_isChosen_9
set_option maxHeartbeats 4000000 in
set_option maxRecDepth 100000 in
theorem c_X3_crossingsOf (l : Launch) (dC : Nat → ClassId) (dI : Nat → Nat → Nat) (h0 h1 h2 : Nat) (cI : ClassId) {u : St} {x1 : Int32} {x2 : Int32} {post : Int32 → Prop} (h : P_X3_crossingsOf u x1 x2 post) : Met l yX3_crossingsOf wsX3_crossingsOf ({ frames := 2, cells := 0, slots := 0, locals := 43 } : Room) (RPre (dC, dI) vwCl (wS h0 h1 h2 cI u) [(cI, .int)] [.ref h0, .int x1, .int x2]) (vp_Si post) 0 0 (fun _ => False) := by
  refine Met.ofW (cc := cX3_crossingsOf) (maxL := 3) (ret := (some .int)) (by decide) rfl ?_
  intro p e s m args below meth c s₁ B hml hv
  obtain ⟨rfl, hP, hK⟩ := hv
  have hx := B.exec
  have hb := B.bytes
  have hr := B.returns
  have hts := atoms_spec (ws := wsX3_crossingsOf) B.pre
  have hown : s.vm.findClass RX3 = some m.cls := findClass_of_methodNamed B.named
  have hlocks := B.notSynchronized
  have hl := lv_entry ([.ref h0, .int x1, .int x2]) (n := 3) (Nat.le_of_ble_eq_true rfl)
  rw [lg_entry_eq]
  generalize (lg_sl ([.ref h0, .int x1, .int x2]) ++ List.replicate (3 - (lg_sl ([.ref h0, .int x1, .int x2])).length) Slot.unset).toArray = ls at hl ⊢
  have hl : lv_has ls 3 [(0, .ref h0), (1, .int x1), (2, .int x2)] := hl
  unfold P_X3_crossingsOf at h
  refine lv_aload_n hx hb dX3_crossingsOf_0 rfl (lv_at hl 0 rfl) ?_
  refine lv_iload_n hx hb dX3_crossingsOf_1 rfl (lv_at hl 1 rfl) ?_
  refine lv_iload_n hx hb dX3_crossingsOf_2 rfl (lv_at hl 2 rfl) ?_
  refine vp_callSi (W.runV (As := [.int _, .int _]) (rest := []) ⟨hx, hb, hml, hown, hts⟩ (c_X3_isChosen l dC dI h0 h1 h2 cI h) (cwV 2 hts gX3_crossingsOf_X3_isChosen rfl rfl rfl (by decide +kernel) ⟨Nat.le_of_ble_eq_true rfl, Nat.le_of_ble_eq_true rfl⟩) ⟨fbR, va_recv hK hP (ci := 1) (q0 := 0) rfl rfl, fun U hU hW => ⟨rfl, by rw [hU]; exact hP, va_K.moved hW.alike hK⟩⟩ rfl rfl hl.1 rfl (lv_room (Nat.le_of_ble_eq_true rfl)) dX3_crossingsOf_3 ⟨Nat.zero_le _, Nat.zero_le _⟩) (fun r_1 h => ?_)
  refine lv_if_eq (tgt := 19) hx hb dX3_crossingsOf_6 (by decide) (fun c_6 => ?_) (fun c_6 => ?_)
  · have h := br1 h c_6
    refine lv_iconst (v := 0) hx hb dX3_crossingsOf_19 (by decide) ?_
    exact W.iret hx hb hr (fun t ht _ => ⟨_, rfl, h, ht⟩) (fun q hq => by cases hq) dX3_crossingsOf_20
  · have h := br2 h c_6
    refine lv_aload_n hx hb dX3_crossingsOf_9 rfl (lv_at hl 0 rfl) ?_
    refine lv_iconst (v := 1) hx hb dX3_crossingsOf_10 (by decide) ?_
    refine lv_iload_n hx hb dX3_crossingsOf_11 rfl (lv_at hl 1 rfl) ?_
    refine lv_isub hx hb dX3_crossingsOf_12 ?_
    refine vp_callSi (W.runV (As := [.int _]) (rest := []) ⟨hx, hb, hml, hown, hts⟩ (c_X3_chosenBits l dC dI h0 h1 h2 cI h) (cwV 1 hts gX3_crossingsOf_X3_chosenBits rfl rfl rfl (by decide +kernel) ⟨Nat.le_of_ble_eq_true rfl, Nat.le_of_ble_eq_true rfl⟩) ⟨fbR, va_recv hK hP (ci := 1) (q0 := 0) rfl rfl, fun U hU hW => ⟨rfl, by rw [hU]; exact hP, va_K.moved hW.alike hK⟩⟩ rfl rfl hl.1 rfl (lv_room (Nat.le_of_ble_eq_true rfl)) dX3_crossingsOf_13 ⟨Nat.zero_le _, Nat.zero_le _⟩) (fun r_2 h => ?_)
    refine lv_goto (tgt := 20) hx hb dX3_crossingsOf_16 (by decide) ?_
    exact W.iret hx hb hr (fun t ht _ => ⟨_, rfl, h, ht⟩) (fun q hq => by cases hq) dX3_crossingsOf_20
set_option maxHeartbeats 4000000 in
set_option maxRecDepth 100000 in
theorem c_X3_wouldCatch (l : Launch) (dC : Nat → ClassId) (dI : Nat → Nat → Nat) (h0 h1 h2 : Nat) (cI : ClassId) {u : St} {x1 : Int32} {x2 : Int32} {post : Int32 → Prop} (h : P_X3_wouldCatch u x1 x2 post) : Met l yX3_wouldCatch wsX3_wouldCatch ({ frames := 2, cells := 0, slots := 0, locals := 44 } : Room) (RPre (dC, dI) vwCl (wS h0 h1 h2 cI u) [(cI, .int)] [.ref h0, .int x1, .int x2]) (vp_Si post) 0 0 (fun _ => False) := by
  refine Met.ofW (cc := cX3_wouldCatch) (maxL := 3) (ret := (some .boolean)) (by decide) rfl ?_
  intro p e s m args below meth c s₁ B hml hv
  obtain ⟨rfl, hP, hK⟩ := hv
  have hx := B.exec
  have hb := B.bytes
  have hr := B.returns
  have hts := atoms_spec (ws := wsX3_wouldCatch) B.pre
  have hown : s.vm.findClass RX3 = some m.cls := findClass_of_methodNamed B.named
  have hlocks := B.notSynchronized
  have hl := lv_entry ([.ref h0, .int x1, .int x2]) (n := 3) (Nat.le_of_ble_eq_true rfl)
  rw [lg_entry_eq]
  generalize (lg_sl ([.ref h0, .int x1, .int x2]) ++ List.replicate (3 - (lg_sl ([.ref h0, .int x1, .int x2])).length) Slot.unset).toArray = ls at hl ⊢
  have hl : lv_has ls 3 [(0, .ref h0), (1, .int x1), (2, .int x2)] := hl
  unfold P_X3_wouldCatch at h
  refine lv_aload_n hx hb dX3_wouldCatch_0 rfl (lv_at hl 0 rfl) ?_
  refine lv_iload_n hx hb dX3_wouldCatch_1 rfl (lv_at hl 1 rfl) ?_
  refine lv_iload_n hx hb dX3_wouldCatch_2 rfl (lv_at hl 2 rfl) ?_
  refine vp_callSi (W.runV (As := [.int _, .int _]) (rest := []) ⟨hx, hb, hml, hown, hts⟩ (c_X3_columnAt l dC dI h0 h1 h2 cI h) (cwV 2 hts gX3_wouldCatch_X3_columnAt rfl rfl rfl (by decide +kernel) ⟨Nat.le_of_ble_eq_true rfl, Nat.le_of_ble_eq_true rfl⟩) ⟨fbR, va_recv hK hP (ci := 1) (q0 := 0) rfl rfl, fun U hU hW => ⟨rfl, by rw [hU]; exact hP, va_K.moved hW.alike hK⟩⟩ rfl rfl hl.1 rfl (lv_room (Nat.le_of_ble_eq_true rfl)) dX3_wouldCatch_3 ⟨Nat.zero_le _, Nat.zero_le _⟩) (fun r_1 h => ?_)
  refine vp_callSi (W.runS (As := [.int _]) (rest := []) ⟨hx, hb, hml, hown, hts⟩ (c_X1_runCount l h) (va_cwS 1 hts gX3_wouldCatch_X1_runCount rfl rfl rfl (by decide +kernel) ⟨Nat.le_of_ble_eq_true rfl, Nat.le_of_ble_eq_true rfl⟩) ⟨fun _ _ _ _ q => q, fun _ _ _ => ⟨rfl, trivial⟩⟩ rfl rfl hl.1 rfl (lv_room (Nat.le_of_ble_eq_true rfl)) dX3_wouldCatch_6 ⟨Nat.zero_le _, Nat.zero_le _⟩) (fun r_2 h => ?_)
  refine lv_iconst (v := 1) hx hb dX3_wouldCatch_9 (by decide) ?_
  refine lv_icmp_le (tgt := 17) hx hb dX3_wouldCatch_10 (by decide) (fun c_10 => ?_) (fun c_10 => ?_)
  · have h := br1 h c_10
    refine lv_iconst (v := 0) hx hb dX3_wouldCatch_17 (by decide) ?_
    exact W.zret (ty := .boolean) hx hb hr rfl (fun t ht _ => ⟨_, rfl, h, ht⟩) (fun q hq => by cases hq) dX3_wouldCatch_18
  · have h := br2 h c_10
    refine lv_iconst (v := 1) hx hb dX3_wouldCatch_13 (by decide) ?_
    refine lv_goto (tgt := 18) hx hb dX3_wouldCatch_14 (by decide) ?_
    exact W.zret (ty := .boolean) hx hb hr rfl (fun t ht _ => ⟨_, rfl, h, ht⟩) (fun q hq => by cases hq) dX3_wouldCatch_18
set_option maxHeartbeats 4000000 in
set_option maxRecDepth 100000 in
theorem c_X3_ribColumn (l : Launch) (dC : Nat → ClassId) (dI : Nat → Nat → Nat) (h0 h1 h2 : Nat) (cI : ClassId) {u : St} {x1 : Int32} {x2 : Int32} {x3 : Int32} {post : Int32 → Prop} (h : P_X3_ribColumn u x1 x2 x3 post) : Met l yX3_ribColumn wsX3_ribColumn ({ frames := 2, cells := 0, slots := 0, locals := 44 } : Room) (RPre (dC, dI) vwCl (wS h0 h1 h2 cI u) [(cI, .int)] [.ref h0, .int x1, .int x2, .int x3]) (vp_Si post) 0 0 (fun _ => False) := by
  refine Met.ofW (cc := cX3_ribColumn) (maxL := 4) (ret := (some .int)) (by decide) rfl ?_
  intro p e s m args below meth c s₁ B hml hv
  obtain ⟨rfl, hP, hK⟩ := hv
  have hx := B.exec
  have hb := B.bytes
  have hr := B.returns
  have hts := atoms_spec (ws := wsX3_ribColumn) B.pre
  have hown : s.vm.findClass RX3 = some m.cls := findClass_of_methodNamed B.named
  have hlocks := B.notSynchronized
  have hl := lv_entry ([.ref h0, .int x1, .int x2, .int x3]) (n := 4) (Nat.le_of_ble_eq_true rfl)
  rw [lg_entry_eq]
  generalize (lg_sl ([.ref h0, .int x1, .int x2, .int x3]) ++ List.replicate (4 - (lg_sl ([.ref h0, .int x1, .int x2, .int x3])).length) Slot.unset).toArray = ls at hl ⊢
  have hl : lv_has ls 4 [(0, .ref h0), (1, .int x1), (2, .int x2), (3, .int x3)] := hl
  unfold P_X3_ribColumn at h
  refine lv_iload_n hx hb dX3_ribColumn_0 rfl (lv_at hl 1 rfl) ?_
  refine lv_if_ne (tgt := 13) hx hb dX3_ribColumn_1 (by decide) (fun c_1 => ?_) (fun c_1 => ?_)
  · have h := br2 h c_1
    refine lv_aload_n hx hb dX3_ribColumn_13 rfl (lv_at hl 0 rfl) ?_
    refine lv_iload_n hx hb dX3_ribColumn_14 rfl (lv_at hl 3 rfl) ?_
    refine lv_iload_n hx hb dX3_ribColumn_15 rfl (lv_at hl 2 rfl) ?_
    refine vp_callSi (W.runV (As := [.int _, .int _]) (rest := []) ⟨hx, hb, hml, hown, hts⟩ (c_X3_columnAt l dC dI h0 h1 h2 cI h) (cwV 2 hts gX3_ribColumn_X3_columnAt rfl rfl rfl (by decide +kernel) ⟨Nat.le_of_ble_eq_true rfl, Nat.le_of_ble_eq_true rfl⟩) ⟨fbR, va_recv hK hP (ci := 1) (q0 := 0) rfl rfl, fun U hU hW => ⟨rfl, by rw [hU]; exact hP, va_K.moved hW.alike hK⟩⟩ rfl rfl hl.1 rfl (lv_room (Nat.le_of_ble_eq_true rfl)) dX3_ribColumn_16 ⟨Nat.zero_le _, Nat.zero_le _⟩) (fun r_1 h => ?_)
    exact W.iret hx hb hr (fun t ht _ => ⟨_, rfl, h, ht⟩) (fun q hq => by cases hq) dX3_ribColumn_19
  · have h := br1 h c_1
    refine lv_aload_n hx hb dX3_ribColumn_4 rfl (lv_at hl 0 rfl) ?_
    refine lv_iload_n hx hb dX3_ribColumn_5 rfl (lv_at hl 2 rfl) ?_
    refine lv_iload_n hx hb dX3_ribColumn_6 rfl (lv_at hl 3 rfl) ?_
    refine vp_callSi (W.runV (As := [.int _, .int _]) (rest := []) ⟨hx, hb, hml, hown, hts⟩ (c_X3_columnAt l dC dI h0 h1 h2 cI h) (cwV 2 hts gX3_ribColumn_X3_columnAt rfl rfl rfl (by decide +kernel) ⟨Nat.le_of_ble_eq_true rfl, Nat.le_of_ble_eq_true rfl⟩) ⟨fbR, va_recv hK hP (ci := 1) (q0 := 0) rfl rfl, fun U hU hW => ⟨rfl, by rw [hU]; exact hP, va_K.moved hW.alike hK⟩⟩ rfl rfl hl.1 rfl (lv_room (Nat.le_of_ble_eq_true rfl)) dX3_ribColumn_7 ⟨Nat.zero_le _, Nat.zero_le _⟩) (fun r_2 h => ?_)
    refine lv_goto (tgt := 19) hx hb dX3_ribColumn_10 (by decide) ?_
    exact W.iret hx hb hr (fun t ht _ => ⟨_, rfl, h, ht⟩) (fun q hq => by cases hq) dX3_ribColumn_19
set_option maxHeartbeats 4000000 in
set_option maxRecDepth 100000 in
theorem c_X3_figureOf (l : Launch) (dC : Nat → ClassId) (dI : Nat → Nat → Nat) (h0 h1 h2 : Nat) (cI : ClassId) {u : St} {x1 : Int32} {x2 : Int32} {post : Int64 → Prop} (h : P_X3_figureOf u x1 x2 post) : Met l yX3_figureOf wsX3_figureOf ({ frames := 3, cells := 0, slots := 0, locals := 67 } : Room) (RPre (dC, dI) vwCl (wS h0 h1 h2 cI u) [(cI, .int)] [.ref h0, .int x1, .int x2]) (vp_Sl post) 0 0 (fun _ => False) := by
  refine Met.ofW (cc := cX3_figureOf) (maxL := 6) (ret := (some .long)) (by decide) rfl ?_
  intro p e s m args below meth c s₁ B hml hv
  obtain ⟨rfl, hP, hK⟩ := hv
  have hx := B.exec
  have hb := B.bytes
  have hr := B.returns
  have hts := atoms_spec (ws := wsX3_figureOf) B.pre
  have hown : s.vm.findClass RX3 = some m.cls := findClass_of_methodNamed B.named
  have hlocks := B.notSynchronized
  have hl := lv_entry ([.ref h0, .int x1, .int x2]) (n := 6) (Nat.le_of_ble_eq_true rfl)
  rw [lg_entry_eq]
  generalize (lg_sl ([.ref h0, .int x1, .int x2]) ++ List.replicate (6 - (lg_sl ([.ref h0, .int x1, .int x2])).length) Slot.unset).toArray = ls at hl ⊢
  have hl : lv_has ls 6 [(0, .ref h0), (1, .int x1), (2, .int x2)] := hl
  unfold P_X3_figureOf at h
  refine lv_lconst (v := 0) hx hb dX3_figureOf_0 (by decide) ?_
  refine lv_lstore_n (lv' := [(3, .long (0 : Int64)), (0, .ref h0), (1, .int x1), (2, .int x2)]) hx hb dX3_figureOf_1 rfl hl (by decide) rfl (fun ls hl => ?_)
  refine lv_iconst (v := 0) hx hb dX3_figureOf_2 (by decide) ?_
  refine lv_istore (lv' := [(5, .int (0 : Int32)), (3, .long (0 : Int64)), (0, .ref h0), (1, .int x1), (2, .int x2)]) hx hb dX3_figureOf_3 hl (by decide) rfl (fun ls hl => ?_)
  obtain ⟨K_5, hKi_5, h⟩ := jnE1 h
  have hK_5 : ∀ (v3_8 : Int64), K_5 v3_8 → ∀ (ls : Array Slot), lv_has ls 6 [(3, .long v3_8)] → W p l e (headSpec wsX3_figureOf ({ frames := 3, cells := 0, slots := 0, locals := 67 } : Room)).room s m ([.ref h0, .int x1, .int x2] : List Value).toArray below meth c s.heap [] 0 0 (MQ below (vp_Sl post) ([.ref h0, .int x1, .int x2] : List Value).toArray s 0 0 (fun _ => False)) (F0 m 39 ls []) := by
    intro v3_8 h ls hl
    have h := hKi_5 _ h
    refine lv_lload_n hx hb dX3_figureOf_39 rfl (lv_at hl 0 rfl) ?_
    exact W.lret hx hb hr (fun t ht _ => ⟨_, rfl, h, ht⟩) (fun q hq => by cases hq) dX3_figureOf_40
  obtain ⟨n, h⟩ := h
  have loop_5 : ∀ (n : Nat) (v3_1 : Int64) (v5_2 : Int32), L_X3_figureOf_5 post K_5 u x1 x2 n v3_1 v5_2 → ∀ (ls : Array Slot), lv_has ls 6 [(0, .ref h0), (1, .int x1), (2, .int x2), (3, .long v3_1), (5, .int v5_2)] → W p l e (headSpec wsX3_figureOf ({ frames := 3, cells := 0, slots := 0, locals := 67 } : Room)).room s m ([.ref h0, .int x1, .int x2] : List Value).toArray below meth c s.heap [] 0 0 (MQ below (vp_Sl post) ([.ref h0, .int x1, .int x2] : List Value).toArray s 0 0 (fun _ => False)) (F0 m 5 ls []) := by
    intro n
    induction n with
    | zero => intro v3_1 v5_2 h; rw [L_X3_figureOf_5] at h; exact h.elim
    | succ n ih_5 =>
      intro v3_1 v5_2 h ls hl
      rw [L_X3_figureOf_5] at h
      refine lv_iload hx hb dX3_figureOf_5 (lv_at hl 4 rfl) ?_
      refine lv_aload_n hx hb dX3_figureOf_7 rfl (lv_at hl 0 rfl) ?_
      refine lv_iconst (v := 1) hx hb dX3_figureOf_8 (by decide) ?_
      refine lv_iload_n hx hb dX3_figureOf_9 rfl (lv_at hl 1 rfl) ?_
      refine lv_isub hx hb dX3_figureOf_10 ?_
      refine vp_callSi (W.runV (As := [.int _]) (rest := [.int _]) ⟨hx, hb, hml, hown, hts⟩ (c_X3_ribCount l dC dI h0 h1 h2 cI h) (cwV 1 hts gX3_figureOf_X3_ribCount rfl rfl rfl (by decide +kernel) ⟨Nat.le_of_ble_eq_true rfl, Nat.le_of_ble_eq_true rfl⟩) ⟨fbR, va_recv hK hP (ci := 1) (q0 := 0) rfl rfl, fun U hU hW => ⟨rfl, by rw [hU]; exact hP, va_K.moved hW.alike hK⟩⟩ rfl rfl hl.1 rfl (lv_room (Nat.le_of_ble_eq_true rfl)) dX3_figureOf_11 ⟨Nat.zero_le _, Nat.zero_le _⟩) (fun r_3 h => ?_)
      refine lv_icmp_ge (tgt := 39) hx hb dX3_figureOf_14 (by decide) (fun c_14 => ?_) (fun c_14 => ?_)
      · have h := br1 h c_14
        exact hK_5 _ h _ (lv_sub hl [3] rfl)
      · have h := br2 h c_14
        refine lv_lload_n hx hb dX3_figureOf_17 rfl (lv_at hl 3 rfl) ?_
        refine lv_aload_n hx hb dX3_figureOf_18 rfl (lv_at hl 0 rfl) ?_
        refine lv_iload_n hx hb dX3_figureOf_19 rfl (lv_at hl 1 rfl) ?_
        refine lv_iload_n hx hb dX3_figureOf_20 rfl (lv_at hl 2 rfl) ?_
        refine lv_iload hx hb dX3_figureOf_21 (lv_at hl 4 rfl) ?_
        refine vp_callSi (W.runV (As := [.int _, .int _, .int _]) (rest := [.long _]) ⟨hx, hb, hml, hown, hts⟩ (c_X3_ribColumn l dC dI h0 h1 h2 cI h) (cwV 3 hts gX3_figureOf_X3_ribColumn rfl rfl rfl (by decide +kernel) ⟨Nat.le_of_ble_eq_true rfl, Nat.le_of_ble_eq_true rfl⟩) ⟨fbR, va_recv hK hP (ci := 1) (q0 := 0) rfl rfl, fun U hU hW => ⟨rfl, by rw [hU]; exact hP, va_K.moved hW.alike hK⟩⟩ rfl rfl hl.1 rfl (lv_room (Nat.le_of_ble_eq_true rfl)) dX3_figureOf_23 ⟨Nat.zero_le _, Nat.zero_le _⟩) (fun r_4 h => ?_)
        refine lv_iload hx hb dX3_figureOf_26 (lv_at hl 4 rfl) ?_
        refine vp_callSl (W.runS (As := [.int _, .int _]) (rest := [.long _]) ⟨hx, hb, hml, hown, hts⟩ (c_X2_shifted l h) (va_cwS 2 hts gX3_figureOf_X2_shifted rfl rfl rfl (by decide +kernel) ⟨Nat.le_of_ble_eq_true rfl, Nat.le_of_ble_eq_true rfl⟩) ⟨fun _ _ _ _ q => q, fun _ _ _ => ⟨rfl, trivial⟩⟩ rfl rfl hl.1 rfl (lv_room (Nat.le_of_ble_eq_true rfl)) dX3_figureOf_28 ⟨Nat.zero_le _, Nat.zero_le _⟩) (fun r_5 h => ?_)
        refine lv_lor hx hb dX3_figureOf_31 ?_
        refine lv_topl (fun y_6 ey_6 => ?_)
        have h := h y_6 ey_6
        refine lv_lstore_n (lv' := [(3, .long y_6), (0, .ref h0), (1, .int x1), (2, .int x2), (5, .int v5_2)]) hx hb dX3_figureOf_32 rfl hl (by decide) rfl (fun ls hl => ?_)
        obtain ⟨y_7, ey_7⟩ : ∃ z : Int32, z = v5_2 + (1 : Int32) := ⟨_, rfl⟩
        have h := h y_7 ey_7
        refine lv_iinc (v := y_7) (lv' := [(5, .int y_7), (3, .long y_6), (0, .ref h0), (1, .int x1), (2, .int x2)]) hx hb dX3_figureOf_33 hl (k := 4) rfl (by rw [ey_7]; rfl) (by decide) rfl (fun ls hl => ?_)
        refine lv_goto (tgt := 5) hx hb dX3_figureOf_36 (by decide) ?_
        exact ih_5 _ _ h _ (lv_sub hl [2, 3, 4, 1, 0] rfl)
  exact loop_5 n _ _ h _ (lv_sub hl [2, 3, 4, 1, 0] rfl)
set_option maxHeartbeats 4000000 in
set_option maxRecDepth 100000 in
theorem c_X3_cutOf (l : Launch) (dC : Nat → ClassId) (dI : Nat → Nat → Nat) (h0 h1 h2 : Nat) (cI : ClassId) {u : St} {x1 : Int32} {x2 : Int32} {post : Int64 → Prop} (h : P_X3_cutOf u x1 x2 post) : Met l yX3_cutOf wsX3_cutOf ({ frames := 3, cells := 0, slots := 0, locals := 67 } : Room) (RPre (dC, dI) vwCl (wS h0 h1 h2 cI u) [(cI, .int)] [.ref h0, .int x1, .int x2]) (vp_Sl post) 0 0 (fun _ => False) := by
  refine Met.ofW (cc := cX3_cutOf) (maxL := 9) (ret := (some .long)) (by decide) rfl ?_
  intro p e s m args below meth c s₁ B hml hv
  obtain ⟨rfl, hP, hK⟩ := hv
  have hx := B.exec
  have hb := B.bytes
  have hr := B.returns
  have hts := atoms_spec (ws := wsX3_cutOf) B.pre
  have hown : s.vm.findClass RX3 = some m.cls := findClass_of_methodNamed B.named
  have hlocks := B.notSynchronized
  have hl := lv_entry ([.ref h0, .int x1, .int x2]) (n := 9) (Nat.le_of_ble_eq_true rfl)
  rw [lg_entry_eq]
  generalize (lg_sl ([.ref h0, .int x1, .int x2]) ++ List.replicate (9 - (lg_sl ([.ref h0, .int x1, .int x2])).length) Slot.unset).toArray = ls at hl ⊢
  have hl : lv_has ls 9 [(0, .ref h0), (1, .int x1), (2, .int x2)] := hl
  unfold P_X3_cutOf at h
  refine lv_aload_n hx hb dX3_cutOf_0 rfl (lv_at hl 0 rfl) ?_
  refine lv_iload_n hx hb dX3_cutOf_1 rfl (lv_at hl 1 rfl) ?_
  refine lv_iload_n hx hb dX3_cutOf_2 rfl (lv_at hl 2 rfl) ?_
  refine vp_callSi (W.runV (As := [.int _, .int _]) (rest := []) ⟨hx, hb, hml, hown, hts⟩ (c_X3_crossingsOf l dC dI h0 h1 h2 cI h) (cwV 2 hts gX3_cutOf_X3_crossingsOf rfl rfl rfl (by decide +kernel) ⟨Nat.le_of_ble_eq_true rfl, Nat.le_of_ble_eq_true rfl⟩) ⟨fbR, va_recv hK hP (ci := 1) (q0 := 0) rfl rfl, fun U hU hW => ⟨rfl, by rw [hU]; exact hP, va_K.moved hW.alike hK⟩⟩ rfl rfl hl.1 rfl (lv_room (Nat.le_of_ble_eq_true rfl)) dX3_cutOf_3 ⟨Nat.zero_le _, Nat.zero_le _⟩) (fun r_1 h => ?_)
  refine lv_istore_n (lv' := [(3, .int r_1), (0, .ref h0), (1, .int x1), (2, .int x2)]) hx hb dX3_cutOf_6 rfl hl (by decide) rfl (fun ls hl => ?_)
  refine lv_lconst (v := 0) hx hb dX3_cutOf_7 (by decide) ?_
  refine lv_lstore (lv' := [(4, .long (0 : Int64)), (3, .int r_1), (0, .ref h0), (1, .int x1), (2, .int x2)]) hx hb dX3_cutOf_8 hl (by decide) rfl (fun ls hl => ?_)
  refine lv_iconst (v := 0) hx hb dX3_cutOf_10 (by decide) ?_
  refine lv_istore (lv' := [(6, .int (0 : Int32)), (4, .long (0 : Int64)), (3, .int r_1), (0, .ref h0), (1, .int x1), (2, .int x2)]) hx hb dX3_cutOf_11 hl (by decide) rfl (fun ls hl => ?_)
  obtain ⟨K_13, hKi_13, h⟩ := jnE1 h
  have hK_13 : ∀ (v4_13 : Int64), K_13 v4_13 → ∀ (ls : Array Slot), lv_has ls 9 [(4, .long v4_13)] → W p l e (headSpec wsX3_cutOf ({ frames := 3, cells := 0, slots := 0, locals := 67 } : Room)).room s m ([.ref h0, .int x1, .int x2] : List Value).toArray below meth c s.heap [] 0 0 (MQ below (vp_Sl post) ([.ref h0, .int x1, .int x2] : List Value).toArray s 0 0 (fun _ => False)) (F0 m 87 ls []) := by
    intro v4_13 h ls hl
    have h := hKi_13 _ h
    refine lv_lload hx hb dX3_cutOf_87 (lv_at hl 0 rfl) ?_
    exact W.lret hx hb hr (fun t ht _ => ⟨_, rfl, h, ht⟩) (fun q hq => by cases hq) dX3_cutOf_89
  obtain ⟨n, h⟩ := h
  have loop_13 : ∀ (n : Nat) (v4_2 : Int64) (v6_3 : Int32), L_X3_cutOf_13 post K_13 u x1 x2 r_1 n v4_2 v6_3 → ∀ (ls : Array Slot), lv_has ls 9 [(0, .ref h0), (1, .int x1), (2, .int x2), (3, .int r_1), (4, .long v4_2), (6, .int v6_3)] → W p l e (headSpec wsX3_cutOf ({ frames := 3, cells := 0, slots := 0, locals := 67 } : Room)).room s m ([.ref h0, .int x1, .int x2] : List Value).toArray below meth c s.heap [] 0 0 (MQ below (vp_Sl post) ([.ref h0, .int x1, .int x2] : List Value).toArray s 0 0 (fun _ => False)) (F0 m 13 ls []) := by
    intro n
    induction n with
    | zero => intro v4_2 v6_3 h; rw [L_X3_cutOf_13] at h; exact h.elim
    | succ n ih_13 =>
      intro v4_2 v6_3 h ls hl
      rw [L_X3_cutOf_13] at h
      refine lv_iload hx hb dX3_cutOf_13 (lv_at hl 5 rfl) ?_
      refine lv_aload_n hx hb dX3_cutOf_15 rfl (lv_at hl 0 rfl) ?_
      refine lv_iconst (v := 1) hx hb dX3_cutOf_16 (by decide) ?_
      refine lv_iload_n hx hb dX3_cutOf_17 rfl (lv_at hl 1 rfl) ?_
      refine lv_isub hx hb dX3_cutOf_18 ?_
      refine vp_callSi (W.runV (As := [.int _]) (rest := [.int _]) ⟨hx, hb, hml, hown, hts⟩ (c_X3_ribCount l dC dI h0 h1 h2 cI h) (cwV 1 hts gX3_cutOf_X3_ribCount rfl rfl rfl (by decide +kernel) ⟨Nat.le_of_ble_eq_true rfl, Nat.le_of_ble_eq_true rfl⟩) ⟨fbR, va_recv hK hP (ci := 1) (q0 := 0) rfl rfl, fun U hU hW => ⟨rfl, by rw [hU]; exact hP, va_K.moved hW.alike hK⟩⟩ rfl rfl hl.1 rfl (lv_room (Nat.le_of_ble_eq_true rfl)) dX3_cutOf_19 ⟨Nat.zero_le _, Nat.zero_le _⟩) (fun r_4 h => ?_)
      refine lv_icmp_ge (tgt := 87) hx hb dX3_cutOf_22 (by decide) (fun c_22 => ?_) (fun c_22 => ?_)
      · have h := br1 h c_22
        exact hK_13 _ h _ (lv_sub hl [4] rfl)
      · have h := br2 h c_22
        refine lv_aload_n hx hb dX3_cutOf_25 rfl (lv_at hl 0 rfl) ?_
        refine lv_iload_n hx hb dX3_cutOf_26 rfl (lv_at hl 1 rfl) ?_
        refine lv_iload_n hx hb dX3_cutOf_27 rfl (lv_at hl 2 rfl) ?_
        refine lv_iload hx hb dX3_cutOf_28 (lv_at hl 5 rfl) ?_
        refine vp_callSi (W.runV (As := [.int _, .int _, .int _]) (rest := []) ⟨hx, hb, hml, hown, hts⟩ (c_X3_ribColumn l dC dI h0 h1 h2 cI h) (cwV 3 hts gX3_cutOf_X3_ribColumn rfl rfl rfl (by decide +kernel) ⟨Nat.le_of_ble_eq_true rfl, Nat.le_of_ble_eq_true rfl⟩) ⟨fbR, va_recv hK hP (ci := 1) (q0 := 0) rfl rfl, fun U hU hW => ⟨rfl, by rw [hU]; exact hP, va_K.moved hW.alike hK⟩⟩ rfl rfl hl.1 rfl (lv_room (Nat.le_of_ble_eq_true rfl)) dX3_cutOf_30 ⟨Nat.zero_le _, Nat.zero_le _⟩) (fun r_5 h => ?_)
        refine lv_istore (lv' := [(7, .int r_5), (0, .ref h0), (1, .int x1), (2, .int x2), (3, .int r_1), (4, .long v4_2), (6, .int v6_3)]) hx hb dX3_cutOf_33 hl (by decide) rfl (fun ls hl => ?_)
        refine lv_iload_n hx hb dX3_cutOf_35 rfl (lv_at hl 4 rfl) ?_
        refine lv_iload hx hb dX3_cutOf_36 (lv_at hl 6 rfl) ?_
        refine vp_callSi (W.runS (As := [.int _, .int _]) (rest := []) ⟨hx, hb, hml, hown, hts⟩ (c_X1_hasBit l h) (va_cwS 2 hts gX3_cutOf_X1_hasBit rfl rfl rfl (by decide +kernel) ⟨Nat.le_of_ble_eq_true rfl, Nat.le_of_ble_eq_true rfl⟩) ⟨fun _ _ _ _ q => q, fun _ _ _ => ⟨rfl, trivial⟩⟩ rfl rfl hl.1 rfl (lv_room (Nat.le_of_ble_eq_true rfl)) dX3_cutOf_38 ⟨Nat.zero_le _, Nat.zero_le _⟩) (fun r_6 h => ?_)
        obtain ⟨J_69, hJi_69, h⟩ := jnE1 h
        have hJ_69 : ∀ (v7_9 : Int32), J_69 v7_9 → ∀ (ls : Array Slot), lv_has ls 9 [(0, .ref h0), (1, .int x1), (2, .int x2), (3, .int r_1), (4, .long v4_2), (6, .int v6_3), (7, .int v7_9)] → W p l e (headSpec wsX3_cutOf ({ frames := 3, cells := 0, slots := 0, locals := 67 } : Room)).room s m ([.ref h0, .int x1, .int x2] : List Value).toArray below meth c s.heap [] 0 0 (MQ below (vp_Sl post) ([.ref h0, .int x1, .int x2] : List Value).toArray s 0 0 (fun _ => False)) (F0 m 69 ls []) := by
          intro v7_9 h ls hl
          have h := hJi_69 _ h
          refine lv_lload hx hb dX3_cutOf_69 (lv_at hl 4 rfl) ?_
          refine lv_iload hx hb dX3_cutOf_71 (lv_at hl 6 rfl) ?_
          refine lv_iload hx hb dX3_cutOf_73 (lv_at hl 5 rfl) ?_
          refine vp_callSl (W.runS (As := [.int _, .int _]) (rest := [.long _]) ⟨hx, hb, hml, hown, hts⟩ (c_X2_shifted l h) (va_cwS 2 hts gX3_cutOf_X2_shifted rfl rfl rfl (by decide +kernel) ⟨Nat.le_of_ble_eq_true rfl, Nat.le_of_ble_eq_true rfl⟩) ⟨fun _ _ _ _ q => q, fun _ _ _ => ⟨rfl, trivial⟩⟩ rfl rfl hl.1 rfl (lv_room (Nat.le_of_ble_eq_true rfl)) dX3_cutOf_75 ⟨Nat.zero_le _, Nat.zero_le _⟩) (fun r_10 h => ?_)
          refine lv_lor hx hb dX3_cutOf_78 ?_
          refine lv_topl (fun y_11 ey_11 => ?_)
          have h := h y_11 ey_11
          refine lv_lstore (lv' := [(4, .long y_11), (0, .ref h0), (1, .int x1), (2, .int x2), (3, .int r_1), (6, .int v6_3), (7, .int v7_9)]) hx hb dX3_cutOf_79 hl (by decide) rfl (fun ls hl => ?_)
          obtain ⟨y_12, ey_12⟩ : ∃ z : Int32, z = v6_3 + (1 : Int32) := ⟨_, rfl⟩
          have h := h y_12 ey_12
          refine lv_iinc (v := y_12) (lv' := [(6, .int y_12), (4, .long y_11), (0, .ref h0), (1, .int x1), (2, .int x2), (3, .int r_1), (7, .int v7_9)]) hx hb dX3_cutOf_81 hl (k := 5) rfl (by rw [ey_12]; rfl) (by decide) rfl (fun ls hl => ?_)
          refine lv_goto (tgt := 13) hx hb dX3_cutOf_84 (by decide) ?_
          exact ih_13 _ _ h _ (lv_sub hl [2, 3, 4, 5, 1, 0] rfl)
        refine lv_if_eq (tgt := 69) hx hb dX3_cutOf_41 (by decide) (fun c_41 => ?_) (fun c_41 => ?_)
        · have h := br1 h c_41
          exact hJ_69 _ h _ (lv_sub hl [1, 2, 3, 4, 5, 6, 0] rfl)
        · have h := br2 h c_41
          refine lv_iload hx hb dX3_cutOf_44 (lv_at hl 0 rfl) ?_
          refine vp_callSi (W.runS (As := [.int _]) (rest := []) ⟨hx, hb, hml, hown, hts⟩ (c_X1_upperHalves l h) (va_cwS 1 hts gX3_cutOf_X1_upperHalves rfl rfl rfl (by decide +kernel) ⟨Nat.le_of_ble_eq_true rfl, Nat.le_of_ble_eq_true rfl⟩) ⟨fun _ _ _ _ q => q, fun _ _ _ => ⟨rfl, trivial⟩⟩ rfl rfl hl.1 rfl (lv_room (Nat.le_of_ble_eq_true rfl)) dX3_cutOf_46 ⟨Nat.zero_le _, Nat.zero_le _⟩) (fun r_7 h => ?_)
          refine lv_istore (lv' := [(8, .int r_7), (7, .int r_5), (0, .ref h0), (1, .int x1), (2, .int x2), (3, .int r_1), (4, .long v4_2), (6, .int v6_3)]) hx hb dX3_cutOf_49 hl (by decide) rfl (fun ls hl => ?_)
          refine lv_iload_n hx hb dX3_cutOf_51 rfl (lv_at hl 3 rfl) ?_
          obtain ⟨J_67, hJi_67, h⟩ := jnE1 h
          have hJ_67 : ∀ (w_8 : Int32), J_67 w_8 → ∀ (ls : Array Slot), lv_has ls 9 [(0, .ref h0), (1, .int x1), (2, .int x2), (3, .int r_1), (4, .long v4_2), (6, .int v6_3)] → W p l e (headSpec wsX3_cutOf ({ frames := 3, cells := 0, slots := 0, locals := 67 } : Room)).room s m ([.ref h0, .int x1, .int x2] : List Value).toArray below meth c s.heap [] 0 0 (MQ below (vp_Sl post) ([.ref h0, .int x1, .int x2] : List Value).toArray s 0 0 (fun _ => False)) (F0 m 67 ls [.int w_8]) := by
            intro w_8 h ls hl
            have h := hJi_67 _ h
            refine lv_istore (lv' := [(7, .int w_8), (0, .ref h0), (1, .int x1), (2, .int x2), (3, .int r_1), (4, .long v4_2), (6, .int v6_3)]) hx hb dX3_cutOf_67 hl (by decide) rfl (fun ls hl => ?_)
            exact hJ_69 _ h _ (lv_sub hl [1, 2, 3, 4, 5, 6, 0] rfl)
          refine lv_if_ne (tgt := 65) hx hb dX3_cutOf_52 (by decide) (fun c_52 => ?_) (fun c_52 => ?_)
          · have h := br2 h c_52
            refine lv_iload hx hb dX3_cutOf_65 (lv_at hl 0 rfl) ?_
            exact hJ_67 _ h _ (lv_sub hl [2, 3, 4, 5, 6, 7] rfl)
          · have h := br1 h c_52
            refine lv_iload hx hb dX3_cutOf_55 (lv_at hl 1 rfl) ?_
            refine lv_iload hx hb dX3_cutOf_57 (lv_at hl 0 rfl) ?_
            refine lv_iconst (v := (-1)) hx hb dX3_cutOf_59 (by decide) ?_
            refine lv_ixor hx hb dX3_cutOf_60 ?_
            refine lv_iand hx hb dX3_cutOf_61 ?_
            refine lv_goto (tgt := 67) hx hb dX3_cutOf_62 (by decide) ?_
            exact hJ_67 _ h _ (lv_sub hl [2, 3, 4, 5, 6, 7] rfl)
  exact loop_13 n _ _ h _ (lv_sub hl [3, 4, 5, 2, 1, 0] rfl)
set_option maxHeartbeats 4000000 in
set_option maxRecDepth 100000 in
theorem c_X3_chosenFigure (l : Launch) (dC : Nat → ClassId) (dI : Nat → Nat → Nat) (h0 h1 h2 : Nat) (cI : ClassId) {u : St} {x1 : Int32} {x2 : Int32} {post : Int64 → Prop} (h : P_X3_chosenFigure u x1 x2 post) : Met l yX3_chosenFigure wsX3_chosenFigure ({ frames := 4, cells := 0, slots := 0, locals := 92 } : Room) (RPre (dC, dI) vwCl (wS h0 h1 h2 cI u) [(cI, .int)] [.ref h0, .int x1, .int x2]) (vp_Sl post) 0 0 (fun _ => False) := by
  refine Met.ofW (cc := cX3_chosenFigure) (maxL := 3) (ret := (some .long)) (by decide) rfl ?_
  intro p e s m args below meth c s₁ B hml hv
  obtain ⟨rfl, hP, hK⟩ := hv
  have hx := B.exec
  have hb := B.bytes
  have hr := B.returns
  have hts := atoms_spec (ws := wsX3_chosenFigure) B.pre
  have hown : s.vm.findClass RX3 = some m.cls := findClass_of_methodNamed B.named
  have hlocks := B.notSynchronized
  have hl := lv_entry ([.ref h0, .int x1, .int x2]) (n := 3) (Nat.le_of_ble_eq_true rfl)
  rw [lg_entry_eq]
  generalize (lg_sl ([.ref h0, .int x1, .int x2]) ++ List.replicate (3 - (lg_sl ([.ref h0, .int x1, .int x2])).length) Slot.unset).toArray = ls at hl ⊢
  have hl : lv_has ls 3 [(0, .ref h0), (1, .int x1), (2, .int x2)] := hl
  unfold P_X3_chosenFigure at h
  refine lv_aload_n hx hb dX3_chosenFigure_0 rfl (lv_at hl 0 rfl) ?_
  refine lv_iload_n hx hb dX3_chosenFigure_1 rfl (lv_at hl 1 rfl) ?_
  refine lv_iload_n hx hb dX3_chosenFigure_2 rfl (lv_at hl 2 rfl) ?_
  refine vp_callSi (W.runV (As := [.int _, .int _]) (rest := []) ⟨hx, hb, hml, hown, hts⟩ (c_X3_isChosen l dC dI h0 h1 h2 cI h) (cwV 2 hts gX3_chosenFigure_X3_isChosen rfl rfl rfl (by decide +kernel) ⟨Nat.le_of_ble_eq_true rfl, Nat.le_of_ble_eq_true rfl⟩) ⟨fbR, va_recv hK hP (ci := 1) (q0 := 0) rfl rfl, fun U hU hW => ⟨rfl, by rw [hU]; exact hP, va_K.moved hW.alike hK⟩⟩ rfl rfl hl.1 rfl (lv_room (Nat.le_of_ble_eq_true rfl)) dX3_chosenFigure_3 ⟨Nat.zero_le _, Nat.zero_le _⟩) (fun r_1 h => ?_)
  refine lv_if_eq (tgt := 18) hx hb dX3_chosenFigure_6 (by decide) (fun c_6 => ?_) (fun c_6 => ?_)
  · have h := br1 h c_6
    refine lv_lconst (v := 0) hx hb dX3_chosenFigure_18 (by decide) ?_
    exact W.lret hx hb hr (fun t ht _ => ⟨_, rfl, h, ht⟩) (fun q hq => by cases hq) dX3_chosenFigure_19
  · have h := br2 h c_6
    refine lv_aload_n hx hb dX3_chosenFigure_9 rfl (lv_at hl 0 rfl) ?_
    refine lv_iload_n hx hb dX3_chosenFigure_10 rfl (lv_at hl 1 rfl) ?_
    refine lv_iload_n hx hb dX3_chosenFigure_11 rfl (lv_at hl 2 rfl) ?_
    refine vp_callSl (W.runV (As := [.int _, .int _]) (rest := []) ⟨hx, hb, hml, hown, hts⟩ (c_X3_figureOf l dC dI h0 h1 h2 cI h) (cwV 2 hts gX3_chosenFigure_X3_figureOf rfl rfl rfl (by decide +kernel) ⟨Nat.le_of_ble_eq_true rfl, Nat.le_of_ble_eq_true rfl⟩) ⟨fbR, va_recv hK hP (ci := 1) (q0 := 0) rfl rfl, fun U hU hW => ⟨rfl, by rw [hU]; exact hP, va_K.moved hW.alike hK⟩⟩ rfl rfl hl.1 rfl (lv_room (Nat.le_of_ble_eq_true rfl)) dX3_chosenFigure_12 ⟨Nat.zero_le _, Nat.zero_le _⟩) (fun r_2 h => ?_)
    refine lv_goto (tgt := 19) hx hb dX3_chosenFigure_15 (by decide) ?_
    exact W.lret hx hb hr (fun t ht _ => ⟨_, rfl, h, ht⟩) (fun q hq => by cases hq) dX3_chosenFigure_19
set_option maxHeartbeats 4000000 in
set_option maxRecDepth 100000 in
theorem c_X3_loosePartsOf (l : Launch) (dC : Nat → ClassId) (dI : Nat → Nat → Nat) (h0 h1 h2 : Nat) (cI : ClassId) {u : St} {x1 : Int32} {x2 : Int32} {post : Int32 → Prop} (h : P_X3_loosePartsOf u x1 x2 post) : Met l yX3_loosePartsOf wsX3_loosePartsOf ({ frames := 4, cells := 0, slots := 0, locals := 95 } : Room) (RPre (dC, dI) vwCl (wS h0 h1 h2 cI u) [(cI, .int)] [.ref h0, .int x1, .int x2]) (vp_Si post) 0 0 (fun _ => False) := by
  refine Met.ofW (cc := cX3_loosePartsOf) (maxL := 7) (ret := (some .int)) (by decide) rfl ?_
  intro p e s m args below meth c s₁ B hml hv
  obtain ⟨rfl, hP, hK⟩ := hv
  have hx := B.exec
  have hb := B.bytes
  have hr := B.returns
  have hts := atoms_spec (ws := wsX3_loosePartsOf) B.pre
  have hown : s.vm.findClass RX3 = some m.cls := findClass_of_methodNamed B.named
  have hlocks := B.notSynchronized
  have hl := lv_entry ([.ref h0, .int x1, .int x2]) (n := 7) (Nat.le_of_ble_eq_true rfl)
  rw [lg_entry_eq]
  generalize (lg_sl ([.ref h0, .int x1, .int x2]) ++ List.replicate (7 - (lg_sl ([.ref h0, .int x1, .int x2])).length) Slot.unset).toArray = ls at hl ⊢
  have hl : lv_has ls 7 [(0, .ref h0), (1, .int x1), (2, .int x2)] := hl
  unfold P_X3_loosePartsOf at h
  refine lv_aload_n hx hb dX3_loosePartsOf_0 rfl (lv_at hl 0 rfl) ?_
  refine lv_iload_n hx hb dX3_loosePartsOf_1 rfl (lv_at hl 1 rfl) ?_
  refine lv_iload_n hx hb dX3_loosePartsOf_2 rfl (lv_at hl 2 rfl) ?_
  refine vp_callSi (W.runV (As := [.int _, .int _]) (rest := []) ⟨hx, hb, hml, hown, hts⟩ (c_X3_crossingsOf l dC dI h0 h1 h2 cI h) (cwV 2 hts gX3_loosePartsOf_X3_crossingsOf rfl rfl rfl (by decide +kernel) ⟨Nat.le_of_ble_eq_true rfl, Nat.le_of_ble_eq_true rfl⟩) ⟨fbR, va_recv hK hP (ci := 1) (q0 := 0) rfl rfl, fun U hU hW => ⟨rfl, by rw [hU]; exact hP, va_K.moved hW.alike hK⟩⟩ rfl rfl hl.1 rfl (lv_room (Nat.le_of_ble_eq_true rfl)) dX3_loosePartsOf_3 ⟨Nat.zero_le _, Nat.zero_le _⟩) (fun r_1 h => ?_)
  refine lv_istore_n (lv' := [(3, .int r_1), (0, .ref h0), (1, .int x1), (2, .int x2)]) hx hb dX3_loosePartsOf_6 rfl hl (by decide) rfl (fun ls hl => ?_)
  refine lv_lconst (v := 0) hx hb dX3_loosePartsOf_7 (by decide) ?_
  refine lv_lstore (lv' := [(4, .long (0 : Int64)), (3, .int r_1), (0, .ref h0), (1, .int x1), (2, .int x2)]) hx hb dX3_loosePartsOf_8 hl (by decide) rfl (fun ls hl => ?_)
  refine lv_iconst (v := 0) hx hb dX3_loosePartsOf_10 (by decide) ?_
  refine lv_istore (lv' := [(6, .int (0 : Int32)), (4, .long (0 : Int64)), (3, .int r_1), (0, .ref h0), (1, .int x1), (2, .int x2)]) hx hb dX3_loosePartsOf_11 hl (by decide) rfl (fun ls hl => ?_)
  obtain ⟨K_13, hKi_13, h⟩ := jnE1 h
  have hK_13 : ∀ (v4_10 : Int64), K_13 v4_10 → ∀ (ls : Array Slot), lv_has ls 7 [(0, .ref h0), (1, .int x1), (2, .int x2), (4, .long v4_10)] → W p l e (headSpec wsX3_loosePartsOf ({ frames := 4, cells := 0, slots := 0, locals := 95 } : Room)).room s m ([.ref h0, .int x1, .int x2] : List Value).toArray below meth c s.heap [] 0 0 (MQ below (vp_Si post) ([.ref h0, .int x1, .int x2] : List Value).toArray s 0 0 (fun _ => False)) (F0 m 53 ls []) := by
    intro v4_10 h ls hl
    have h := hKi_13 _ h
    refine lv_aload_n hx hb dX3_loosePartsOf_53 rfl (lv_at hl 0 rfl) ?_
    refine lv_iload_n hx hb dX3_loosePartsOf_54 rfl (lv_at hl 1 rfl) ?_
    refine lv_iload_n hx hb dX3_loosePartsOf_55 rfl (lv_at hl 2 rfl) ?_
    refine vp_callSl (W.runV (As := [.int _, .int _]) (rest := []) ⟨hx, hb, hml, hown, hts⟩ (c_X3_cutOf l dC dI h0 h1 h2 cI h) (cwV 2 hts gX3_loosePartsOf_X3_cutOf rfl rfl rfl (by decide +kernel) ⟨Nat.le_of_ble_eq_true rfl, Nat.le_of_ble_eq_true rfl⟩) ⟨fbR, va_recv hK hP (ci := 1) (q0 := 0) rfl rfl, fun U hU hW => ⟨rfl, by rw [hU]; exact hP, va_K.moved hW.alike hK⟩⟩ rfl rfl hl.1 rfl (lv_room (Nat.le_of_ble_eq_true rfl)) dX3_loosePartsOf_56 ⟨Nat.zero_le _, Nat.zero_le _⟩) (fun r_11 h => ?_)
    refine lv_lload hx hb dX3_loosePartsOf_59 (lv_at hl 3 rfl) ?_
    refine vp_callSi (W.runS (As := [.long _, .long _]) (rest := []) ⟨hx, hb, hml, hown, hts⟩ (c_X2_partsClearOf l h) (va_cwS 2 hts gX3_loosePartsOf_X2_partsClearOf rfl rfl rfl (by decide +kernel) ⟨Nat.le_of_ble_eq_true rfl, Nat.le_of_ble_eq_true rfl⟩) ⟨fun _ _ _ _ q => q, fun _ _ _ => ⟨rfl, trivial⟩⟩ rfl rfl hl.1 rfl (lv_room (Nat.le_of_ble_eq_true rfl)) dX3_loosePartsOf_61 ⟨Nat.zero_le _, Nat.zero_le _⟩) (fun r_12 h => ?_)
    exact W.iret hx hb hr (fun t ht _ => ⟨_, rfl, h, ht⟩) (fun q hq => by cases hq) dX3_loosePartsOf_64
  obtain ⟨n, h⟩ := h
  have loop_13 : ∀ (n : Nat) (v4_2 : Int64) (v6_3 : Int32), L_X3_loosePartsOf_13 post K_13 u x1 r_1 n v4_2 v6_3 → ∀ (ls : Array Slot), lv_has ls 7 [(0, .ref h0), (1, .int x1), (2, .int x2), (3, .int r_1), (4, .long v4_2), (6, .int v6_3)] → W p l e (headSpec wsX3_loosePartsOf ({ frames := 4, cells := 0, slots := 0, locals := 95 } : Room)).room s m ([.ref h0, .int x1, .int x2] : List Value).toArray below meth c s.heap [] 0 0 (MQ below (vp_Si post) ([.ref h0, .int x1, .int x2] : List Value).toArray s 0 0 (fun _ => False)) (F0 m 13 ls []) := by
    intro n
    induction n with
    | zero => intro v4_2 v6_3 h; rw [L_X3_loosePartsOf_13] at h; exact h.elim
    | succ n ih_13 =>
      intro v4_2 v6_3 h ls hl
      rw [L_X3_loosePartsOf_13] at h
      refine lv_iload hx hb dX3_loosePartsOf_13 (lv_at hl 5 rfl) ?_
      refine lv_aload_n hx hb dX3_loosePartsOf_15 rfl (lv_at hl 0 rfl) ?_
      refine lv_iconst (v := 1) hx hb dX3_loosePartsOf_16 (by decide) ?_
      refine lv_iload_n hx hb dX3_loosePartsOf_17 rfl (lv_at hl 1 rfl) ?_
      refine lv_isub hx hb dX3_loosePartsOf_18 ?_
      refine vp_callSi (W.runV (As := [.int _]) (rest := [.int _]) ⟨hx, hb, hml, hown, hts⟩ (c_X3_ribCount l dC dI h0 h1 h2 cI h) (cwV 1 hts gX3_loosePartsOf_X3_ribCount rfl rfl rfl (by decide +kernel) ⟨Nat.le_of_ble_eq_true rfl, Nat.le_of_ble_eq_true rfl⟩) ⟨fbR, va_recv hK hP (ci := 1) (q0 := 0) rfl rfl, fun U hU hW => ⟨rfl, by rw [hU]; exact hP, va_K.moved hW.alike hK⟩⟩ rfl rfl hl.1 rfl (lv_room (Nat.le_of_ble_eq_true rfl)) dX3_loosePartsOf_19 ⟨Nat.zero_le _, Nat.zero_le _⟩) (fun r_4 h => ?_)
      refine lv_icmp_ge (tgt := 53) hx hb dX3_loosePartsOf_22 (by decide) (fun c_22 => ?_) (fun c_22 => ?_)
      · have h := br1 h c_22
        exact hK_13 _ h _ (lv_sub hl [0, 1, 2, 4] rfl)
      · have h := br2 h c_22
        refine lv_iload_n hx hb dX3_loosePartsOf_25 rfl (lv_at hl 3 rfl) ?_
        refine lv_iload hx hb dX3_loosePartsOf_26 (lv_at hl 5 rfl) ?_
        refine vp_callSi (W.runS (As := [.int _, .int _]) (rest := []) ⟨hx, hb, hml, hown, hts⟩ (c_X1_hasBit l h) (va_cwS 2 hts gX3_loosePartsOf_X1_hasBit rfl rfl rfl (by decide +kernel) ⟨Nat.le_of_ble_eq_true rfl, Nat.le_of_ble_eq_true rfl⟩) ⟨fun _ _ _ _ q => q, fun _ _ _ => ⟨rfl, trivial⟩⟩ rfl rfl hl.1 rfl (lv_room (Nat.le_of_ble_eq_true rfl)) dX3_loosePartsOf_28 ⟨Nat.zero_le _, Nat.zero_le _⟩) (fun r_5 h => ?_)
        obtain ⟨J_47, hJi_47, h⟩ := jnE1 h
        have hJ_47 : ∀ (v4_8 : Int64), J_47 v4_8 → ∀ (ls : Array Slot), lv_has ls 7 [(0, .ref h0), (1, .int x1), (2, .int x2), (3, .int r_1), (4, .long v4_8), (6, .int v6_3)] → W p l e (headSpec wsX3_loosePartsOf ({ frames := 4, cells := 0, slots := 0, locals := 95 } : Room)).room s m ([.ref h0, .int x1, .int x2] : List Value).toArray below meth c s.heap [] 0 0 (MQ below (vp_Si post) ([.ref h0, .int x1, .int x2] : List Value).toArray s 0 0 (fun _ => False)) (F0 m 47 ls []) := by
          intro v4_8 h ls hl
          have h := hJi_47 _ h
          obtain ⟨y_9, ey_9⟩ : ∃ z : Int32, z = v6_3 + (1 : Int32) := ⟨_, rfl⟩
          have h := h y_9 ey_9
          refine lv_iinc (v := y_9) (lv' := [(6, .int y_9), (0, .ref h0), (1, .int x1), (2, .int x2), (3, .int r_1), (4, .long v4_8)]) hx hb dX3_loosePartsOf_47 hl (k := 5) rfl (by rw [ey_9]; rfl) (by decide) rfl (fun ls hl => ?_)
          refine lv_goto (tgt := 13) hx hb dX3_loosePartsOf_50 (by decide) ?_
          exact ih_13 _ _ h _ (lv_sub hl [1, 2, 3, 4, 5, 0] rfl)
        refine lv_if_eq (tgt := 47) hx hb dX3_loosePartsOf_31 (by decide) (fun c_31 => ?_) (fun c_31 => ?_)
        · have h := br1 h c_31
          exact hJ_47 _ h _ (lv_sub hl [0, 1, 2, 3, 4, 5] rfl)
        · have h := br2 h c_31
          refine lv_lload hx hb dX3_loosePartsOf_34 (lv_at hl 4 rfl) ?_
          refine lv_sipush (v := 255) hx hb dX3_loosePartsOf_36 (by decide) ?_
          refine lv_iload hx hb dX3_loosePartsOf_39 (lv_at hl 5 rfl) ?_
          refine vp_callSl (W.runS (As := [.int _, .int _]) (rest := [.long _]) ⟨hx, hb, hml, hown, hts⟩ (c_X2_shifted l h) (va_cwS 2 hts gX3_loosePartsOf_X2_shifted rfl rfl rfl (by decide +kernel) ⟨Nat.le_of_ble_eq_true rfl, Nat.le_of_ble_eq_true rfl⟩) ⟨fun _ _ _ _ q => q, fun _ _ _ => ⟨rfl, trivial⟩⟩ rfl rfl hl.1 rfl (lv_room (Nat.le_of_ble_eq_true rfl)) dX3_loosePartsOf_41 ⟨Nat.zero_le _, Nat.zero_le _⟩) (fun r_6 h => ?_)
          refine lv_lor hx hb dX3_loosePartsOf_44 ?_
          refine lv_topl (fun y_7 ey_7 => ?_)
          have h := h y_7 ey_7
          refine lv_lstore (lv' := [(4, .long y_7), (0, .ref h0), (1, .int x1), (2, .int x2), (3, .int r_1), (6, .int v6_3)]) hx hb dX3_loosePartsOf_45 hl (by decide) rfl (fun ls hl => ?_)
          exact hJ_47 _ h _ (lv_sub hl [1, 2, 3, 4, 0, 5] rfl)
  exact loop_13 n _ _ h _ (lv_sub hl [3, 4, 5, 2, 1, 0] rfl)
set_option maxHeartbeats 4000000 in
set_option maxRecDepth 100000 in
theorem c_X3_crossingsWithRun (l : Launch) (dC : Nat → ClassId) (dI : Nat → Nat → Nat) (h0 h1 h2 : Nat) (cI : ClassId) {u : St} {x1 : Int32} {x2 : Int32} {post : Int32 → Prop} (h : P_X3_crossingsWithRun u x1 x2 post) : Met l yX3_crossingsWithRun wsX3_crossingsWithRun ({ frames := 3, cells := 0, slots := 0, locals := 67 } : Room) (RPre (dC, dI) vwCl (wS h0 h1 h2 cI u) [(cI, .int)] [.ref h0, .int x1, .int x2]) (vp_Si post) 0 0 (fun _ => False) := by
  refine Met.ofW (cc := cX3_crossingsWithRun) (maxL := 6) (ret := (some .int)) (by decide) rfl ?_
  intro p e s m args below meth c s₁ B hml hv
  obtain ⟨rfl, hP, hK⟩ := hv
  have hx := B.exec
  have hb := B.bytes
  have hr := B.returns
  have hts := atoms_spec (ws := wsX3_crossingsWithRun) B.pre
  have hown : s.vm.findClass RX3 = some m.cls := findClass_of_methodNamed B.named
  have hlocks := B.notSynchronized
  have hl := lv_entry ([.ref h0, .int x1, .int x2]) (n := 6) (Nat.le_of_ble_eq_true rfl)
  rw [lg_entry_eq]
  generalize (lg_sl ([.ref h0, .int x1, .int x2]) ++ List.replicate (6 - (lg_sl ([.ref h0, .int x1, .int x2])).length) Slot.unset).toArray = ls at hl ⊢
  have hl : lv_has ls 6 [(0, .ref h0), (1, .int x1), (2, .int x2)] := hl
  unfold P_X3_crossingsWithRun at h
  refine lv_aload_n hx hb dX3_crossingsWithRun_0 rfl (lv_at hl 0 rfl) ?_
  refine lv_iload_n hx hb dX3_crossingsWithRun_1 rfl (lv_at hl 1 rfl) ?_
  refine lv_iload_n hx hb dX3_crossingsWithRun_2 rfl (lv_at hl 2 rfl) ?_
  refine vp_callSi (W.runV (As := [.int _, .int _]) (rest := []) ⟨hx, hb, hml, hown, hts⟩ (c_X3_crossingsOf l dC dI h0 h1 h2 cI h) (cwV 2 hts gX3_crossingsWithRun_X3_crossingsOf rfl rfl rfl (by decide +kernel) ⟨Nat.le_of_ble_eq_true rfl, Nat.le_of_ble_eq_true rfl⟩) ⟨fbR, va_recv hK hP (ci := 1) (q0 := 0) rfl rfl, fun U hU hW => ⟨rfl, by rw [hU]; exact hP, va_K.moved hW.alike hK⟩⟩ rfl rfl hl.1 rfl (lv_room (Nat.le_of_ble_eq_true rfl)) dX3_crossingsWithRun_3 ⟨Nat.zero_le _, Nat.zero_le _⟩) (fun r_1 h => ?_)
  refine lv_istore_n (lv' := [(3, .int r_1), (0, .ref h0), (1, .int x1), (2, .int x2)]) hx hb dX3_crossingsWithRun_6 rfl hl (by decide) rfl (fun ls hl => ?_)
  refine lv_iconst (v := 0) hx hb dX3_crossingsWithRun_7 (by decide) ?_
  refine lv_istore (lv' := [(4, .int (0 : Int32)), (3, .int r_1), (0, .ref h0), (1, .int x1), (2, .int x2)]) hx hb dX3_crossingsWithRun_8 hl (by decide) rfl (fun ls hl => ?_)
  refine lv_iconst (v := 0) hx hb dX3_crossingsWithRun_10 (by decide) ?_
  refine lv_istore (lv' := [(5, .int (0 : Int32)), (4, .int (0 : Int32)), (3, .int r_1), (0, .ref h0), (1, .int x1), (2, .int x2)]) hx hb dX3_crossingsWithRun_11 hl (by decide) rfl (fun ls hl => ?_)
  obtain ⟨K_13, hKi_13, h⟩ := jnE1 h
  have hK_13 : ∀ (v4_10 : Int32), K_13 v4_10 → ∀ (ls : Array Slot), lv_has ls 6 [(4, .int v4_10)] → W p l e (headSpec wsX3_crossingsWithRun ({ frames := 3, cells := 0, slots := 0, locals := 67 } : Room)).room s m ([.ref h0, .int x1, .int x2] : List Value).toArray below meth c s.heap [] 0 0 (MQ below (vp_Si post) ([.ref h0, .int x1, .int x2] : List Value).toArray s 0 0 (fun _ => False)) (F0 m 54 ls []) := by
    intro v4_10 h ls hl
    have h := hKi_13 _ h
    refine lv_iload hx hb dX3_crossingsWithRun_54 (lv_at hl 0 rfl) ?_
    exact W.iret hx hb hr (fun t ht _ => ⟨_, rfl, h, ht⟩) (fun q hq => by cases hq) dX3_crossingsWithRun_56
  obtain ⟨n, h⟩ := h
  have loop_13 : ∀ (n : Nat) (v4_2 : Int32) (v5_3 : Int32), L_X3_crossingsWithRun_13 post K_13 u x1 x2 r_1 n v4_2 v5_3 → ∀ (ls : Array Slot), lv_has ls 6 [(0, .ref h0), (1, .int x1), (2, .int x2), (3, .int r_1), (4, .int v4_2), (5, .int v5_3)] → W p l e (headSpec wsX3_crossingsWithRun ({ frames := 3, cells := 0, slots := 0, locals := 67 } : Room)).room s m ([.ref h0, .int x1, .int x2] : List Value).toArray below meth c s.heap [] 0 0 (MQ below (vp_Si post) ([.ref h0, .int x1, .int x2] : List Value).toArray s 0 0 (fun _ => False)) (F0 m 13 ls []) := by
    intro n
    induction n with
    | zero => intro v4_2 v5_3 h; rw [L_X3_crossingsWithRun_13] at h; exact h.elim
    | succ n ih_13 =>
      intro v4_2 v5_3 h ls hl
      rw [L_X3_crossingsWithRun_13] at h
      refine lv_iload hx hb dX3_crossingsWithRun_13 (lv_at hl 5 rfl) ?_
      refine lv_aload_n hx hb dX3_crossingsWithRun_15 rfl (lv_at hl 0 rfl) ?_
      refine lv_iconst (v := 1) hx hb dX3_crossingsWithRun_16 (by decide) ?_
      refine lv_iload_n hx hb dX3_crossingsWithRun_17 rfl (lv_at hl 1 rfl) ?_
      refine lv_isub hx hb dX3_crossingsWithRun_18 ?_
      refine vp_callSi (W.runV (As := [.int _]) (rest := [.int _]) ⟨hx, hb, hml, hown, hts⟩ (c_X3_ribCount l dC dI h0 h1 h2 cI h) (cwV 1 hts gX3_crossingsWithRun_X3_ribCount rfl rfl rfl (by decide +kernel) ⟨Nat.le_of_ble_eq_true rfl, Nat.le_of_ble_eq_true rfl⟩) ⟨fbR, va_recv hK hP (ci := 1) (q0 := 0) rfl rfl, fun U hU hW => ⟨rfl, by rw [hU]; exact hP, va_K.moved hW.alike hK⟩⟩ rfl rfl hl.1 rfl (lv_room (Nat.le_of_ble_eq_true rfl)) dX3_crossingsWithRun_19 ⟨Nat.zero_le _, Nat.zero_le _⟩) (fun r_4 h => ?_)
      refine lv_icmp_ge (tgt := 54) hx hb dX3_crossingsWithRun_22 (by decide) (fun c_22 => ?_) (fun c_22 => ?_)
      · have h := br1 h c_22
        exact hK_13 _ h _ (lv_sub hl [4] rfl)
      · have h := br2 h c_22
        refine lv_iload_n hx hb dX3_crossingsWithRun_25 rfl (lv_at hl 3 rfl) ?_
        refine lv_iload hx hb dX3_crossingsWithRun_26 (lv_at hl 5 rfl) ?_
        refine vp_callSi (W.runS (As := [.int _, .int _]) (rest := []) ⟨hx, hb, hml, hown, hts⟩ (c_X1_hasBit l h) (va_cwS 2 hts gX3_crossingsWithRun_X1_hasBit rfl rfl rfl (by decide +kernel) ⟨Nat.le_of_ble_eq_true rfl, Nat.le_of_ble_eq_true rfl⟩) ⟨fun _ _ _ _ q => q, fun _ _ _ => ⟨rfl, trivial⟩⟩ rfl rfl hl.1 rfl (lv_room (Nat.le_of_ble_eq_true rfl)) dX3_crossingsWithRun_28 ⟨Nat.zero_le _, Nat.zero_le _⟩) (fun r_5 h => ?_)
        obtain ⟨J_48, hJi_48, h⟩ := jnE1 h
        have hJ_48 : ∀ (v4_8 : Int32), J_48 v4_8 → ∀ (ls : Array Slot), lv_has ls 6 [(0, .ref h0), (1, .int x1), (2, .int x2), (3, .int r_1), (4, .int v4_8), (5, .int v5_3)] → W p l e (headSpec wsX3_crossingsWithRun ({ frames := 3, cells := 0, slots := 0, locals := 67 } : Room)).room s m ([.ref h0, .int x1, .int x2] : List Value).toArray below meth c s.heap [] 0 0 (MQ below (vp_Si post) ([.ref h0, .int x1, .int x2] : List Value).toArray s 0 0 (fun _ => False)) (F0 m 48 ls []) := by
          intro v4_8 h ls hl
          have h := hJi_48 _ h
          obtain ⟨y_9, ey_9⟩ : ∃ z : Int32, z = v5_3 + (1 : Int32) := ⟨_, rfl⟩
          have h := h y_9 ey_9
          refine lv_iinc (v := y_9) (lv' := [(5, .int y_9), (0, .ref h0), (1, .int x1), (2, .int x2), (3, .int r_1), (4, .int v4_8)]) hx hb dX3_crossingsWithRun_48 hl (k := 5) rfl (by rw [ey_9]; rfl) (by decide) rfl (fun ls hl => ?_)
          refine lv_goto (tgt := 13) hx hb dX3_crossingsWithRun_51 (by decide) ?_
          exact ih_13 _ _ h _ (lv_sub hl [1, 2, 3, 4, 5, 0] rfl)
        refine lv_if_eq (tgt := 48) hx hb dX3_crossingsWithRun_31 (by decide) (fun c_31 => ?_) (fun c_31 => ?_)
        · have h := br1 h c_31
          exact hJ_48 _ h _ (lv_sub hl [0, 1, 2, 3, 4, 5] rfl)
        · have h := br2 h c_31
          refine lv_aload_n hx hb dX3_crossingsWithRun_34 rfl (lv_at hl 0 rfl) ?_
          refine lv_iload_n hx hb dX3_crossingsWithRun_35 rfl (lv_at hl 1 rfl) ?_
          refine lv_iload_n hx hb dX3_crossingsWithRun_36 rfl (lv_at hl 2 rfl) ?_
          refine lv_iload hx hb dX3_crossingsWithRun_37 (lv_at hl 5 rfl) ?_
          refine vp_callSi (W.runV (As := [.int _, .int _, .int _]) (rest := []) ⟨hx, hb, hml, hown, hts⟩ (c_X3_ribColumn l dC dI h0 h1 h2 cI h) (cwV 3 hts gX3_crossingsWithRun_X3_ribColumn rfl rfl rfl (by decide +kernel) ⟨Nat.le_of_ble_eq_true rfl, Nat.le_of_ble_eq_true rfl⟩) ⟨fbR, va_recv hK hP (ci := 1) (q0 := 0) rfl rfl, fun U hU hW => ⟨rfl, by rw [hU]; exact hP, va_K.moved hW.alike hK⟩⟩ rfl rfl hl.1 rfl (lv_room (Nat.le_of_ble_eq_true rfl)) dX3_crossingsWithRun_39 ⟨Nat.zero_le _, Nat.zero_le _⟩) (fun r_6 h => ?_)
          refine lv_if_eq (tgt := 48) hx hb dX3_crossingsWithRun_42 (by decide) (fun c_42 => ?_) (fun c_42 => ?_)
          · have h := br1 h c_42
            exact hJ_48 _ h _ (lv_sub hl [0, 1, 2, 3, 4, 5] rfl)
          · have h := br2 h c_42
            obtain ⟨y_7, ey_7⟩ : ∃ z : Int32, z = v4_2 + (1 : Int32) := ⟨_, rfl⟩
            have h := h y_7 ey_7
            refine lv_iinc (v := y_7) (lv' := [(4, .int y_7), (0, .ref h0), (1, .int x1), (2, .int x2), (3, .int r_1), (5, .int v5_3)]) hx hb dX3_crossingsWithRun_45 hl (k := 4) rfl (by rw [ey_7]; rfl) (by decide) rfl (fun ls hl => ?_)
            exact hJ_48 _ h _ (lv_sub hl [1, 2, 3, 4, 0, 5] rfl)
  exact loop_13 n _ _ h _ (lv_sub hl [3, 4, 5, 2, 1, 0] rfl)
set_option maxHeartbeats 4000000 in
set_option maxRecDepth 100000 in
theorem c_X3_runsInCrossings (l : Launch) (dC : Nat → ClassId) (dI : Nat → Nat → Nat) (h0 h1 h2 : Nat) (cI : ClassId) {u : St} {x1 : Int32} {x2 : Int32} {post : Int32 → Prop} (h : P_X3_runsInCrossings u x1 x2 post) : Met l yX3_runsInCrossings wsX3_runsInCrossings ({ frames := 3, cells := 0, slots := 0, locals := 67 } : Room) (RPre (dC, dI) vwCl (wS h0 h1 h2 cI u) [(cI, .int)] [.ref h0, .int x1, .int x2]) (vp_Si post) 0 0 (fun _ => False) := by
  refine Met.ofW (cc := cX3_runsInCrossings) (maxL := 6) (ret := (some .int)) (by decide) rfl ?_
  intro p e s m args below meth c s₁ B hml hv
  obtain ⟨rfl, hP, hK⟩ := hv
  have hx := B.exec
  have hb := B.bytes
  have hr := B.returns
  have hts := atoms_spec (ws := wsX3_runsInCrossings) B.pre
  have hown : s.vm.findClass RX3 = some m.cls := findClass_of_methodNamed B.named
  have hlocks := B.notSynchronized
  have hl := lv_entry ([.ref h0, .int x1, .int x2]) (n := 6) (Nat.le_of_ble_eq_true rfl)
  rw [lg_entry_eq]
  generalize (lg_sl ([.ref h0, .int x1, .int x2]) ++ List.replicate (6 - (lg_sl ([.ref h0, .int x1, .int x2])).length) Slot.unset).toArray = ls at hl ⊢
  have hl : lv_has ls 6 [(0, .ref h0), (1, .int x1), (2, .int x2)] := hl
  unfold P_X3_runsInCrossings at h
  refine lv_aload_n hx hb dX3_runsInCrossings_0 rfl (lv_at hl 0 rfl) ?_
  refine lv_iload_n hx hb dX3_runsInCrossings_1 rfl (lv_at hl 1 rfl) ?_
  refine lv_iload_n hx hb dX3_runsInCrossings_2 rfl (lv_at hl 2 rfl) ?_
  refine vp_callSi (W.runV (As := [.int _, .int _]) (rest := []) ⟨hx, hb, hml, hown, hts⟩ (c_X3_crossingsOf l dC dI h0 h1 h2 cI h) (cwV 2 hts gX3_runsInCrossings_X3_crossingsOf rfl rfl rfl (by decide +kernel) ⟨Nat.le_of_ble_eq_true rfl, Nat.le_of_ble_eq_true rfl⟩) ⟨fbR, va_recv hK hP (ci := 1) (q0 := 0) rfl rfl, fun U hU hW => ⟨rfl, by rw [hU]; exact hP, va_K.moved hW.alike hK⟩⟩ rfl rfl hl.1 rfl (lv_room (Nat.le_of_ble_eq_true rfl)) dX3_runsInCrossings_3 ⟨Nat.zero_le _, Nat.zero_le _⟩) (fun r_1 h => ?_)
  refine lv_istore_n (lv' := [(3, .int r_1), (0, .ref h0), (1, .int x1), (2, .int x2)]) hx hb dX3_runsInCrossings_6 rfl hl (by decide) rfl (fun ls hl => ?_)
  refine lv_iconst (v := 0) hx hb dX3_runsInCrossings_7 (by decide) ?_
  refine lv_istore (lv' := [(4, .int (0 : Int32)), (3, .int r_1), (0, .ref h0), (1, .int x1), (2, .int x2)]) hx hb dX3_runsInCrossings_8 hl (by decide) rfl (fun ls hl => ?_)
  refine lv_iconst (v := 0) hx hb dX3_runsInCrossings_10 (by decide) ?_
  refine lv_istore (lv' := [(5, .int (0 : Int32)), (4, .int (0 : Int32)), (3, .int r_1), (0, .ref h0), (1, .int x1), (2, .int x2)]) hx hb dX3_runsInCrossings_11 hl (by decide) rfl (fun ls hl => ?_)
  obtain ⟨K_13, hKi_13, h⟩ := jnE1 h
  have hK_13 : ∀ (v4_11 : Int32), K_13 v4_11 → ∀ (ls : Array Slot), lv_has ls 6 [(4, .int v4_11)] → W p l e (headSpec wsX3_runsInCrossings ({ frames := 3, cells := 0, slots := 0, locals := 67 } : Room)).room s m ([.ref h0, .int x1, .int x2] : List Value).toArray below meth c s.heap [] 0 0 (MQ below (vp_Si post) ([.ref h0, .int x1, .int x2] : List Value).toArray s 0 0 (fun _ => False)) (F0 m 56 ls []) := by
    intro v4_11 h ls hl
    have h := hKi_13 _ h
    refine lv_iload hx hb dX3_runsInCrossings_56 (lv_at hl 0 rfl) ?_
    exact W.iret hx hb hr (fun t ht _ => ⟨_, rfl, h, ht⟩) (fun q hq => by cases hq) dX3_runsInCrossings_58
  obtain ⟨n, h⟩ := h
  have loop_13 : ∀ (n : Nat) (v4_2 : Int32) (v5_3 : Int32), L_X3_runsInCrossings_13 post K_13 u x1 x2 r_1 n v4_2 v5_3 → ∀ (ls : Array Slot), lv_has ls 6 [(0, .ref h0), (1, .int x1), (2, .int x2), (3, .int r_1), (4, .int v4_2), (5, .int v5_3)] → W p l e (headSpec wsX3_runsInCrossings ({ frames := 3, cells := 0, slots := 0, locals := 67 } : Room)).room s m ([.ref h0, .int x1, .int x2] : List Value).toArray below meth c s.heap [] 0 0 (MQ below (vp_Si post) ([.ref h0, .int x1, .int x2] : List Value).toArray s 0 0 (fun _ => False)) (F0 m 13 ls []) := by
    intro n
    induction n with
    | zero => intro v4_2 v5_3 h; rw [L_X3_runsInCrossings_13] at h; exact h.elim
    | succ n ih_13 =>
      intro v4_2 v5_3 h ls hl
      rw [L_X3_runsInCrossings_13] at h
      refine lv_iload hx hb dX3_runsInCrossings_13 (lv_at hl 5 rfl) ?_
      refine lv_aload_n hx hb dX3_runsInCrossings_15 rfl (lv_at hl 0 rfl) ?_
      refine lv_iconst (v := 1) hx hb dX3_runsInCrossings_16 (by decide) ?_
      refine lv_iload_n hx hb dX3_runsInCrossings_17 rfl (lv_at hl 1 rfl) ?_
      refine lv_isub hx hb dX3_runsInCrossings_18 ?_
      refine vp_callSi (W.runV (As := [.int _]) (rest := [.int _]) ⟨hx, hb, hml, hown, hts⟩ (c_X3_ribCount l dC dI h0 h1 h2 cI h) (cwV 1 hts gX3_runsInCrossings_X3_ribCount rfl rfl rfl (by decide +kernel) ⟨Nat.le_of_ble_eq_true rfl, Nat.le_of_ble_eq_true rfl⟩) ⟨fbR, va_recv hK hP (ci := 1) (q0 := 0) rfl rfl, fun U hU hW => ⟨rfl, by rw [hU]; exact hP, va_K.moved hW.alike hK⟩⟩ rfl rfl hl.1 rfl (lv_room (Nat.le_of_ble_eq_true rfl)) dX3_runsInCrossings_19 ⟨Nat.zero_le _, Nat.zero_le _⟩) (fun r_4 h => ?_)
      refine lv_icmp_ge (tgt := 56) hx hb dX3_runsInCrossings_22 (by decide) (fun c_22 => ?_) (fun c_22 => ?_)
      · have h := br1 h c_22
        exact hK_13 _ h _ (lv_sub hl [4] rfl)
      · have h := br2 h c_22
        refine lv_iload_n hx hb dX3_runsInCrossings_25 rfl (lv_at hl 3 rfl) ?_
        refine lv_iload hx hb dX3_runsInCrossings_26 (lv_at hl 5 rfl) ?_
        refine vp_callSi (W.runS (As := [.int _, .int _]) (rest := []) ⟨hx, hb, hml, hown, hts⟩ (c_X1_hasBit l h) (va_cwS 2 hts gX3_runsInCrossings_X1_hasBit rfl rfl rfl (by decide +kernel) ⟨Nat.le_of_ble_eq_true rfl, Nat.le_of_ble_eq_true rfl⟩) ⟨fun _ _ _ _ q => q, fun _ _ _ => ⟨rfl, trivial⟩⟩ rfl rfl hl.1 rfl (lv_room (Nat.le_of_ble_eq_true rfl)) dX3_runsInCrossings_28 ⟨Nat.zero_le _, Nat.zero_le _⟩) (fun r_5 h => ?_)
        obtain ⟨J_50, hJi_50, h⟩ := jnE1 h
        have hJ_50 : ∀ (v4_9 : Int32), J_50 v4_9 → ∀ (ls : Array Slot), lv_has ls 6 [(0, .ref h0), (1, .int x1), (2, .int x2), (3, .int r_1), (4, .int v4_9), (5, .int v5_3)] → W p l e (headSpec wsX3_runsInCrossings ({ frames := 3, cells := 0, slots := 0, locals := 67 } : Room)).room s m ([.ref h0, .int x1, .int x2] : List Value).toArray below meth c s.heap [] 0 0 (MQ below (vp_Si post) ([.ref h0, .int x1, .int x2] : List Value).toArray s 0 0 (fun _ => False)) (F0 m 50 ls []) := by
          intro v4_9 h ls hl
          have h := hJi_50 _ h
          obtain ⟨y_10, ey_10⟩ : ∃ z : Int32, z = v5_3 + (1 : Int32) := ⟨_, rfl⟩
          have h := h y_10 ey_10
          refine lv_iinc (v := y_10) (lv' := [(5, .int y_10), (0, .ref h0), (1, .int x1), (2, .int x2), (3, .int r_1), (4, .int v4_9)]) hx hb dX3_runsInCrossings_50 hl (k := 5) rfl (by rw [ey_10]; rfl) (by decide) rfl (fun ls hl => ?_)
          refine lv_goto (tgt := 13) hx hb dX3_runsInCrossings_53 (by decide) ?_
          exact ih_13 _ _ h _ (lv_sub hl [1, 2, 3, 4, 5, 0] rfl)
        refine lv_if_eq (tgt := 50) hx hb dX3_runsInCrossings_31 (by decide) (fun c_31 => ?_) (fun c_31 => ?_)
        · have h := br1 h c_31
          exact hJ_50 _ h _ (lv_sub hl [0, 1, 2, 3, 4, 5] rfl)
        · have h := br2 h c_31
          refine lv_iload hx hb dX3_runsInCrossings_34 (lv_at hl 4 rfl) ?_
          refine lv_aload_n hx hb dX3_runsInCrossings_36 rfl (lv_at hl 0 rfl) ?_
          refine lv_iload_n hx hb dX3_runsInCrossings_37 rfl (lv_at hl 1 rfl) ?_
          refine lv_iload_n hx hb dX3_runsInCrossings_38 rfl (lv_at hl 2 rfl) ?_
          refine lv_iload hx hb dX3_runsInCrossings_39 (lv_at hl 5 rfl) ?_
          refine vp_callSi (W.runV (As := [.int _, .int _, .int _]) (rest := [.int _]) ⟨hx, hb, hml, hown, hts⟩ (c_X3_ribColumn l dC dI h0 h1 h2 cI h) (cwV 3 hts gX3_runsInCrossings_X3_ribColumn rfl rfl rfl (by decide +kernel) ⟨Nat.le_of_ble_eq_true rfl, Nat.le_of_ble_eq_true rfl⟩) ⟨fbR, va_recv hK hP (ci := 1) (q0 := 0) rfl rfl, fun U hU hW => ⟨rfl, by rw [hU]; exact hP, va_K.moved hW.alike hK⟩⟩ rfl rfl hl.1 rfl (lv_room (Nat.le_of_ble_eq_true rfl)) dX3_runsInCrossings_41 ⟨Nat.zero_le _, Nat.zero_le _⟩) (fun r_6 h => ?_)
          refine vp_callSi (W.runS (As := [.int _]) (rest := [.int _]) ⟨hx, hb, hml, hown, hts⟩ (c_X1_runCount l h) (va_cwS 1 hts gX3_runsInCrossings_X1_runCount rfl rfl rfl (by decide +kernel) ⟨Nat.le_of_ble_eq_true rfl, Nat.le_of_ble_eq_true rfl⟩) ⟨fun _ _ _ _ q => q, fun _ _ _ => ⟨rfl, trivial⟩⟩ rfl rfl hl.1 rfl (lv_room (Nat.le_of_ble_eq_true rfl)) dX3_runsInCrossings_44 ⟨Nat.zero_le _, Nat.zero_le _⟩) (fun r_7 h => ?_)
          refine lv_iadd hx hb dX3_runsInCrossings_47 ?_
          refine lv_topi (fun y_8 ey_8 => ?_)
          have h := h y_8 ey_8
          refine lv_istore (lv' := [(4, .int y_8), (0, .ref h0), (1, .int x1), (2, .int x2), (3, .int r_1), (5, .int v5_3)]) hx hb dX3_runsInCrossings_48 hl (by decide) rfl (fun ls hl => ?_)
          exact hJ_50 _ h _ (lv_sub hl [1, 2, 3, 4, 0, 5] rfl)
  exact loop_13 n _ _ h _ (lv_sub hl [3, 4, 5, 2, 1, 0] rfl)
set_option maxHeartbeats 4000000 in
set_option maxRecDepth 100000 in
theorem c_X3_cubesOfCuts (l : Launch) (dC : Nat → ClassId) (dI : Nat → Nat → Nat) (h0 h1 h2 : Nat) (cI : ClassId) {u : St} {post : Int32 → Prop} (h : P_X3_cubesOfCuts u post) : Met l yX3_cubesOfCuts wsX3_cubesOfCuts ({ frames := 4, cells := 0, slots := 0, locals := 95 } : Room) (RPre (dC, dI) vwCl (wS h0 h1 h2 cI u) [(cI, .int)] [.ref h0]) (vp_Si post) 0 0 (fun _ => False) := by
  refine Met.ofW (cc := cX3_cubesOfCuts) (maxL := 4) (ret := (some .int)) (by decide) rfl ?_
  intro p e s m args below meth c s₁ B hml hv
  obtain ⟨rfl, hP, hK⟩ := hv
  have hx := B.exec
  have hb := B.bytes
  have hr := B.returns
  have hts := atoms_spec (ws := wsX3_cubesOfCuts) B.pre
  have hown : s.vm.findClass RX3 = some m.cls := findClass_of_methodNamed B.named
  have hlocks := B.notSynchronized
  have hl := lv_entry ([.ref h0]) (n := 4) (Nat.le_of_ble_eq_true rfl)
  rw [lg_entry_eq]
  generalize (lg_sl ([.ref h0]) ++ List.replicate (4 - (lg_sl ([.ref h0])).length) Slot.unset).toArray = ls at hl ⊢
  have hl : lv_has ls 4 [(0, .ref h0)] := hl
  unfold P_X3_cubesOfCuts at h
  refine lv_iconst (v := 0) hx hb dX3_cubesOfCuts_0 (by decide) ?_
  refine lv_istore_n (lv' := [(1, .int (0 : Int32)), (0, .ref h0)]) hx hb dX3_cubesOfCuts_1 rfl hl (by decide) rfl (fun ls hl => ?_)
  refine lv_iconst (v := 0) hx hb dX3_cubesOfCuts_2 (by decide) ?_
  refine lv_istore_n (lv' := [(2, .int (0 : Int32)), (1, .int (0 : Int32)), (0, .ref h0)]) hx hb dX3_cubesOfCuts_3 rfl hl (by decide) rfl (fun ls hl => ?_)
  obtain ⟨K_4, hKi_4, h⟩ := jnE1 h
  have hK_4 : ∀ (v1_14 : Int32), K_4 v1_14 → ∀ (ls : Array Slot), lv_has ls 4 [(1, .int v1_14)] → W p l e (headSpec wsX3_cubesOfCuts ({ frames := 4, cells := 0, slots := 0, locals := 95 } : Room)).room s m ([.ref h0] : List Value).toArray below meth c s.heap [] 0 0 (MQ below (vp_Si post) ([.ref h0] : List Value).toArray s 0 0 (fun _ => False)) (F0 m 57 ls []) := by
    intro v1_14 h ls hl
    have h := hKi_4 _ h
    refine lv_iload_n hx hb dX3_cubesOfCuts_57 rfl (lv_at hl 0 rfl) ?_
    exact W.iret hx hb hr (fun t ht _ => ⟨_, rfl, h, ht⟩) (fun q hq => by cases hq) dX3_cubesOfCuts_58
  obtain ⟨n, h⟩ := h
  have loop_4 : ∀ (n : Nat) (v1_1 : Int32) (v2_2 : Int32), L_X3_cubesOfCuts_4 post K_4 u n v1_1 v2_2 → ∀ (ls : Array Slot), lv_has ls 4 [(0, .ref h0), (1, .int v1_1), (2, .int v2_2)] → W p l e (headSpec wsX3_cubesOfCuts ({ frames := 4, cells := 0, slots := 0, locals := 95 } : Room)).room s m ([.ref h0] : List Value).toArray below meth c s.heap [] 0 0 (MQ below (vp_Si post) ([.ref h0] : List Value).toArray s 0 0 (fun _ => False)) (F0 m 4 ls []) := by
    intro n
    induction n with
    | zero => intro v1_1 v2_2 h; rw [L_X3_cubesOfCuts_4] at h; exact h.elim
    | succ n ih_4 =>
      intro v1_1 v2_2 h ls hl
      rw [L_X3_cubesOfCuts_4] at h
      refine lv_iload_n hx hb dX3_cubesOfCuts_4 rfl (lv_at hl 2 rfl) ?_
      refine lv_iconst (v := 2) hx hb dX3_cubesOfCuts_5 (by decide) ?_
      refine lv_icmp_ge (tgt := 57) hx hb dX3_cubesOfCuts_6 (by decide) (fun c_6 => ?_) (fun c_6 => ?_)
      · have h := br1 h c_6
        exact hK_4 _ h _ (lv_sub hl [1] rfl)
      · have h := br2 h c_6
        refine lv_iconst (v := 0) hx hb dX3_cubesOfCuts_9 (by decide) ?_
        refine lv_istore_n (lv' := [(3, .int (0 : Int32)), (0, .ref h0), (1, .int v1_1), (2, .int v2_2)]) hx hb dX3_cubesOfCuts_10 rfl hl (by decide) rfl (fun ls hl => ?_)
        obtain ⟨K_11, hKi_11, h⟩ := jnE1 h
        have hK_11 : ∀ (v1_12 : Int32), K_11 v1_12 → ∀ (ls : Array Slot), lv_has ls 4 [(0, .ref h0), (1, .int v1_12), (2, .int v2_2)] → W p l e (headSpec wsX3_cubesOfCuts ({ frames := 4, cells := 0, slots := 0, locals := 95 } : Room)).room s m ([.ref h0] : List Value).toArray below meth c s.heap [] 0 0 (MQ below (vp_Si post) ([.ref h0] : List Value).toArray s 0 0 (fun _ => False)) (F0 m 51 ls []) := by
          intro v1_12 h ls hl
          have h := hKi_11 _ h
          obtain ⟨y_13, ey_13⟩ : ∃ z : Int32, z = v2_2 + (1 : Int32) := ⟨_, rfl⟩
          have h := h y_13 ey_13
          refine lv_iinc (v := y_13) (lv' := [(2, .int y_13), (0, .ref h0), (1, .int v1_12)]) hx hb dX3_cubesOfCuts_51 hl (k := 2) rfl (by rw [ey_13]; rfl) (by decide) rfl (fun ls hl => ?_)
          refine lv_goto (tgt := 4) hx hb dX3_cubesOfCuts_54 (by decide) ?_
          exact ih_4 _ _ h _ (lv_sub hl [1, 2, 0] rfl)
        obtain ⟨n, h⟩ := h
        have loop_11 : ∀ (n : Nat) (v1_3 : Int32) (v3_4 : Int32), L_X3_cubesOfCuts_11 post K_11 u v2_2 n v1_3 v3_4 → ∀ (ls : Array Slot), lv_has ls 4 [(0, .ref h0), (1, .int v1_3), (2, .int v2_2), (3, .int v3_4)] → W p l e (headSpec wsX3_cubesOfCuts ({ frames := 4, cells := 0, slots := 0, locals := 95 } : Room)).room s m ([.ref h0] : List Value).toArray below meth c s.heap [] 0 0 (MQ below (vp_Si post) ([.ref h0] : List Value).toArray s 0 0 (fun _ => False)) (F0 m 11 ls []) := by
          intro n
          induction n with
          | zero => intro v1_3 v3_4 h; rw [L_X3_cubesOfCuts_11] at h; exact h.elim
          | succ n ih_11 =>
            intro v1_3 v3_4 h ls hl
            rw [L_X3_cubesOfCuts_11] at h
            refine lv_iload_n hx hb dX3_cubesOfCuts_11 rfl (lv_at hl 3 rfl) ?_
            refine lv_aload_n hx hb dX3_cubesOfCuts_12 rfl (lv_at hl 0 rfl) ?_
            refine lv_iload_n hx hb dX3_cubesOfCuts_13 rfl (lv_at hl 2 rfl) ?_
            refine vp_callSi (W.runV (As := [.int _]) (rest := [.int _]) ⟨hx, hb, hml, hown, hts⟩ (c_X3_ribCount l dC dI h0 h1 h2 cI h) (cwV 1 hts gX3_cubesOfCuts_X3_ribCount rfl rfl rfl (by decide +kernel) ⟨Nat.le_of_ble_eq_true rfl, Nat.le_of_ble_eq_true rfl⟩) ⟨fbR, va_recv hK hP (ci := 1) (q0 := 0) rfl rfl, fun U hU hW => ⟨rfl, by rw [hU]; exact hP, va_K.moved hW.alike hK⟩⟩ rfl rfl hl.1 rfl (lv_room (Nat.le_of_ble_eq_true rfl)) dX3_cubesOfCuts_14 ⟨Nat.zero_le _, Nat.zero_le _⟩) (fun r_5 h => ?_)
            refine lv_icmp_ge (tgt := 51) hx hb dX3_cubesOfCuts_17 (by decide) (fun c_17 => ?_) (fun c_17 => ?_)
            · have h := br1 h c_17
              exact hK_11 _ h _ (lv_sub hl [0, 1, 2] rfl)
            · have h := br2 h c_17
              refine lv_iload_n hx hb dX3_cubesOfCuts_20 rfl (lv_at hl 1 rfl) ?_
              refine lv_aload_n hx hb dX3_cubesOfCuts_21 rfl (lv_at hl 0 rfl) ?_
              refine lv_iload_n hx hb dX3_cubesOfCuts_22 rfl (lv_at hl 2 rfl) ?_
              refine lv_iload_n hx hb dX3_cubesOfCuts_23 rfl (lv_at hl 3 rfl) ?_
              refine vp_callSi (W.runV (As := [.int _, .int _]) (rest := [.int _]) ⟨hx, hb, hml, hown, hts⟩ (c_X3_isChosen l dC dI h0 h1 h2 cI h) (cwV 2 hts gX3_cubesOfCuts_X3_isChosen rfl rfl rfl (by decide +kernel) ⟨Nat.le_of_ble_eq_true rfl, Nat.le_of_ble_eq_true rfl⟩) ⟨fbR, va_recv hK hP (ci := 1) (q0 := 0) rfl rfl, fun U hU hW => ⟨rfl, by rw [hU]; exact hP, va_K.moved hW.alike hK⟩⟩ rfl rfl hl.1 rfl (lv_room (Nat.le_of_ble_eq_true rfl)) dX3_cubesOfCuts_24 ⟨Nat.zero_le _, Nat.zero_le _⟩) (fun r_6 h => ?_)
              obtain ⟨J_43, hJi_43, h⟩ := jnE1 h
              have hJ_43 : ∀ (w_9 : Int32), J_43 w_9 → ∀ (ls : Array Slot), lv_has ls 4 [(0, .ref h0), (2, .int v2_2), (3, .int v3_4)] → W p l e (headSpec wsX3_cubesOfCuts ({ frames := 4, cells := 0, slots := 0, locals := 95 } : Room)).room s m ([.ref h0] : List Value).toArray below meth c s.heap [] 0 0 (MQ below (vp_Si post) ([.ref h0] : List Value).toArray s 0 0 (fun _ => False)) (F0 m 43 ls [.int w_9, .int v1_3]) := by
                intro w_9 h ls hl
                have h := hJi_43 _ h
                refine lv_iadd hx hb dX3_cubesOfCuts_43 ?_
                refine lv_topi (fun y_10 ey_10 => ?_)
                have h := h y_10 ey_10
                refine lv_istore_n (lv' := [(1, .int y_10), (0, .ref h0), (2, .int v2_2), (3, .int v3_4)]) hx hb dX3_cubesOfCuts_44 rfl hl (by decide) rfl (fun ls hl => ?_)
                obtain ⟨y_11, ey_11⟩ : ∃ z : Int32, z = v3_4 + (1 : Int32) := ⟨_, rfl⟩
                have h := h y_11 ey_11
                refine lv_iinc (v := y_11) (lv' := [(3, .int y_11), (1, .int y_10), (0, .ref h0), (2, .int v2_2)]) hx hb dX3_cubesOfCuts_45 hl (k := 3) rfl (by rw [ey_11]; rfl) (by decide) rfl (fun ls hl => ?_)
                refine lv_goto (tgt := 11) hx hb dX3_cubesOfCuts_48 (by decide) ?_
                exact ih_11 _ _ h _ (lv_sub hl [2, 1, 3, 0] rfl)
              refine lv_if_eq (tgt := 42) hx hb dX3_cubesOfCuts_27 (by decide) (fun c_27 => ?_) (fun c_27 => ?_)
              · have h := br1 h c_27
                refine lv_iconst (v := 0) hx hb dX3_cubesOfCuts_42 (by decide) ?_
                exact hJ_43 _ h _ (lv_sub hl [0, 2, 3] rfl)
              · have h := br2 h c_27
                refine lv_aload_n hx hb dX3_cubesOfCuts_30 rfl (lv_at hl 0 rfl) ?_
                refine lv_iload_n hx hb dX3_cubesOfCuts_31 rfl (lv_at hl 2 rfl) ?_
                refine lv_iload_n hx hb dX3_cubesOfCuts_32 rfl (lv_at hl 3 rfl) ?_
                refine vp_callSl (W.runV (As := [.int _, .int _]) (rest := [.int _]) ⟨hx, hb, hml, hown, hts⟩ (c_X3_cutOf l dC dI h0 h1 h2 cI h) (cwV 2 hts gX3_cubesOfCuts_X3_cutOf rfl rfl rfl (by decide +kernel) ⟨Nat.le_of_ble_eq_true rfl, Nat.le_of_ble_eq_true rfl⟩) ⟨fbR, va_recv hK hP (ci := 1) (q0 := 0) rfl rfl, fun U hU hW => ⟨rfl, by rw [hU]; exact hP, va_K.moved hW.alike hK⟩⟩ rfl rfl hl.1 rfl (lv_room (Nat.le_of_ble_eq_true rfl)) dX3_cubesOfCuts_33 ⟨Nat.zero_le _, Nat.zero_le _⟩) (fun r_7 h => ?_)
                refine vp_callSi (W.runS (As := [.long _]) (rest := [.int _]) ⟨hx, hb, hml, hown, hts⟩ (c_J13_bitCount_95d88 l h) (va_cwS 1 hts gX3_cubesOfCuts_J13_bitCount_95d88 rfl rfl rfl (by decide +kernel) ⟨Nat.le_of_ble_eq_true rfl, Nat.le_of_ble_eq_true rfl⟩) ⟨fun _ _ _ _ q => q, fun _ _ _ => ⟨rfl, trivial⟩⟩ rfl rfl hl.1 rfl (lv_room (Nat.le_of_ble_eq_true rfl)) dX3_cubesOfCuts_36 ⟨Nat.zero_le _, Nat.zero_le _⟩) (fun r_8 h => ?_)
                refine lv_goto (tgt := 43) hx hb dX3_cubesOfCuts_39 (by decide) ?_
                exact hJ_43 _ h _ (lv_sub hl [0, 2, 3] rfl)
        exact loop_11 n _ _ h _ (lv_sub hl [1, 2, 3, 0] rfl)
  exact loop_4 n _ _ h _ (lv_sub hl [2, 1, 0] rfl)
set_option maxHeartbeats 4000000 in
set_option maxRecDepth 100000 in
theorem c_X3_looseParts (l : Launch) (dC : Nat → ClassId) (dI : Nat → Nat → Nat) (h0 h1 h2 : Nat) (cI : ClassId) {u : St} {post : Int32 → Prop} (h : P_X3_looseParts u post) : Met l yX3_looseParts wsX3_looseParts ({ frames := 5, cells := 0, slots := 0, locals := 121 } : Room) (RPre (dC, dI) vwCl (wS h0 h1 h2 cI u) [(cI, .int)] [.ref h0]) (vp_Si post) 0 0 (fun _ => False) := by
  refine Met.ofW (cc := cX3_looseParts) (maxL := 4) (ret := (some .int)) (by decide) rfl ?_
  intro p e s m args below meth c s₁ B hml hv
  obtain ⟨rfl, hP, hK⟩ := hv
  have hx := B.exec
  have hb := B.bytes
  have hr := B.returns
  have hts := atoms_spec (ws := wsX3_looseParts) B.pre
  have hown : s.vm.findClass RX3 = some m.cls := findClass_of_methodNamed B.named
  have hlocks := B.notSynchronized
  have hl := lv_entry ([.ref h0]) (n := 4) (Nat.le_of_ble_eq_true rfl)
  rw [lg_entry_eq]
  generalize (lg_sl ([.ref h0]) ++ List.replicate (4 - (lg_sl ([.ref h0])).length) Slot.unset).toArray = ls at hl ⊢
  have hl : lv_has ls 4 [(0, .ref h0)] := hl
  unfold P_X3_looseParts at h
  refine lv_iconst (v := 0) hx hb dX3_looseParts_0 (by decide) ?_
  refine lv_istore_n (lv' := [(1, .int (0 : Int32)), (0, .ref h0)]) hx hb dX3_looseParts_1 rfl hl (by decide) rfl (fun ls hl => ?_)
  refine lv_iconst (v := 0) hx hb dX3_looseParts_2 (by decide) ?_
  refine lv_istore_n (lv' := [(2, .int (0 : Int32)), (1, .int (0 : Int32)), (0, .ref h0)]) hx hb dX3_looseParts_3 rfl hl (by decide) rfl (fun ls hl => ?_)
  obtain ⟨K_4, hKi_4, h⟩ := jnE1 h
  have hK_4 : ∀ (v1_13 : Int32), K_4 v1_13 → ∀ (ls : Array Slot), lv_has ls 4 [(1, .int v1_13)] → W p l e (headSpec wsX3_looseParts ({ frames := 5, cells := 0, slots := 0, locals := 121 } : Room)).room s m ([.ref h0] : List Value).toArray below meth c s.heap [] 0 0 (MQ below (vp_Si post) ([.ref h0] : List Value).toArray s 0 0 (fun _ => False)) (F0 m 54 ls []) := by
    intro v1_13 h ls hl
    have h := hKi_4 _ h
    refine lv_iload_n hx hb dX3_looseParts_54 rfl (lv_at hl 0 rfl) ?_
    exact W.iret hx hb hr (fun t ht _ => ⟨_, rfl, h, ht⟩) (fun q hq => by cases hq) dX3_looseParts_55
  obtain ⟨n, h⟩ := h
  have loop_4 : ∀ (n : Nat) (v1_1 : Int32) (v2_2 : Int32), L_X3_looseParts_4 post K_4 u n v1_1 v2_2 → ∀ (ls : Array Slot), lv_has ls 4 [(0, .ref h0), (1, .int v1_1), (2, .int v2_2)] → W p l e (headSpec wsX3_looseParts ({ frames := 5, cells := 0, slots := 0, locals := 121 } : Room)).room s m ([.ref h0] : List Value).toArray below meth c s.heap [] 0 0 (MQ below (vp_Si post) ([.ref h0] : List Value).toArray s 0 0 (fun _ => False)) (F0 m 4 ls []) := by
    intro n
    induction n with
    | zero => intro v1_1 v2_2 h; rw [L_X3_looseParts_4] at h; exact h.elim
    | succ n ih_4 =>
      intro v1_1 v2_2 h ls hl
      rw [L_X3_looseParts_4] at h
      refine lv_iload_n hx hb dX3_looseParts_4 rfl (lv_at hl 2 rfl) ?_
      refine lv_iconst (v := 2) hx hb dX3_looseParts_5 (by decide) ?_
      refine lv_icmp_ge (tgt := 54) hx hb dX3_looseParts_6 (by decide) (fun c_6 => ?_) (fun c_6 => ?_)
      · have h := br1 h c_6
        exact hK_4 _ h _ (lv_sub hl [1] rfl)
      · have h := br2 h c_6
        refine lv_iconst (v := 0) hx hb dX3_looseParts_9 (by decide) ?_
        refine lv_istore_n (lv' := [(3, .int (0 : Int32)), (0, .ref h0), (1, .int v1_1), (2, .int v2_2)]) hx hb dX3_looseParts_10 rfl hl (by decide) rfl (fun ls hl => ?_)
        obtain ⟨K_11, hKi_11, h⟩ := jnE1 h
        have hK_11 : ∀ (v1_11 : Int32), K_11 v1_11 → ∀ (ls : Array Slot), lv_has ls 4 [(0, .ref h0), (1, .int v1_11), (2, .int v2_2)] → W p l e (headSpec wsX3_looseParts ({ frames := 5, cells := 0, slots := 0, locals := 121 } : Room)).room s m ([.ref h0] : List Value).toArray below meth c s.heap [] 0 0 (MQ below (vp_Si post) ([.ref h0] : List Value).toArray s 0 0 (fun _ => False)) (F0 m 48 ls []) := by
          intro v1_11 h ls hl
          have h := hKi_11 _ h
          obtain ⟨y_12, ey_12⟩ : ∃ z : Int32, z = v2_2 + (1 : Int32) := ⟨_, rfl⟩
          have h := h y_12 ey_12
          refine lv_iinc (v := y_12) (lv' := [(2, .int y_12), (0, .ref h0), (1, .int v1_11)]) hx hb dX3_looseParts_48 hl (k := 2) rfl (by rw [ey_12]; rfl) (by decide) rfl (fun ls hl => ?_)
          refine lv_goto (tgt := 4) hx hb dX3_looseParts_51 (by decide) ?_
          exact ih_4 _ _ h _ (lv_sub hl [1, 2, 0] rfl)
        obtain ⟨n, h⟩ := h
        have loop_11 : ∀ (n : Nat) (v1_3 : Int32) (v3_4 : Int32), L_X3_looseParts_11 post K_11 u v2_2 n v1_3 v3_4 → ∀ (ls : Array Slot), lv_has ls 4 [(0, .ref h0), (1, .int v1_3), (2, .int v2_2), (3, .int v3_4)] → W p l e (headSpec wsX3_looseParts ({ frames := 5, cells := 0, slots := 0, locals := 121 } : Room)).room s m ([.ref h0] : List Value).toArray below meth c s.heap [] 0 0 (MQ below (vp_Si post) ([.ref h0] : List Value).toArray s 0 0 (fun _ => False)) (F0 m 11 ls []) := by
          intro n
          induction n with
          | zero => intro v1_3 v3_4 h; rw [L_X3_looseParts_11] at h; exact h.elim
          | succ n ih_11 =>
            intro v1_3 v3_4 h ls hl
            rw [L_X3_looseParts_11] at h
            refine lv_iload_n hx hb dX3_looseParts_11 rfl (lv_at hl 3 rfl) ?_
            refine lv_aload_n hx hb dX3_looseParts_12 rfl (lv_at hl 0 rfl) ?_
            refine lv_iload_n hx hb dX3_looseParts_13 rfl (lv_at hl 2 rfl) ?_
            refine vp_callSi (W.runV (As := [.int _]) (rest := [.int _]) ⟨hx, hb, hml, hown, hts⟩ (c_X3_ribCount l dC dI h0 h1 h2 cI h) (cwV 1 hts gX3_looseParts_X3_ribCount rfl rfl rfl (by decide +kernel) ⟨Nat.le_of_ble_eq_true rfl, Nat.le_of_ble_eq_true rfl⟩) ⟨fbR, va_recv hK hP (ci := 1) (q0 := 0) rfl rfl, fun U hU hW => ⟨rfl, by rw [hU]; exact hP, va_K.moved hW.alike hK⟩⟩ rfl rfl hl.1 rfl (lv_room (Nat.le_of_ble_eq_true rfl)) dX3_looseParts_14 ⟨Nat.zero_le _, Nat.zero_le _⟩) (fun r_5 h => ?_)
            refine lv_icmp_ge (tgt := 48) hx hb dX3_looseParts_17 (by decide) (fun c_17 => ?_) (fun c_17 => ?_)
            · have h := br1 h c_17
              exact hK_11 _ h _ (lv_sub hl [0, 1, 2] rfl)
            · have h := br2 h c_17
              refine lv_iload_n hx hb dX3_looseParts_20 rfl (lv_at hl 1 rfl) ?_
              refine lv_aload_n hx hb dX3_looseParts_21 rfl (lv_at hl 0 rfl) ?_
              refine lv_iload_n hx hb dX3_looseParts_22 rfl (lv_at hl 2 rfl) ?_
              refine lv_iload_n hx hb dX3_looseParts_23 rfl (lv_at hl 3 rfl) ?_
              refine vp_callSi (W.runV (As := [.int _, .int _]) (rest := [.int _]) ⟨hx, hb, hml, hown, hts⟩ (c_X3_isChosen l dC dI h0 h1 h2 cI h) (cwV 2 hts gX3_looseParts_X3_isChosen rfl rfl rfl (by decide +kernel) ⟨Nat.le_of_ble_eq_true rfl, Nat.le_of_ble_eq_true rfl⟩) ⟨fbR, va_recv hK hP (ci := 1) (q0 := 0) rfl rfl, fun U hU hW => ⟨rfl, by rw [hU]; exact hP, va_K.moved hW.alike hK⟩⟩ rfl rfl hl.1 rfl (lv_room (Nat.le_of_ble_eq_true rfl)) dX3_looseParts_24 ⟨Nat.zero_le _, Nat.zero_le _⟩) (fun r_6 h => ?_)
              obtain ⟨J_40, hJi_40, h⟩ := jnE1 h
              have hJ_40 : ∀ (w_8 : Int32), J_40 w_8 → ∀ (ls : Array Slot), lv_has ls 4 [(0, .ref h0), (2, .int v2_2), (3, .int v3_4)] → W p l e (headSpec wsX3_looseParts ({ frames := 5, cells := 0, slots := 0, locals := 121 } : Room)).room s m ([.ref h0] : List Value).toArray below meth c s.heap [] 0 0 (MQ below (vp_Si post) ([.ref h0] : List Value).toArray s 0 0 (fun _ => False)) (F0 m 40 ls [.int w_8, .int v1_3]) := by
                intro w_8 h ls hl
                have h := hJi_40 _ h
                refine lv_iadd hx hb dX3_looseParts_40 ?_
                refine lv_topi (fun y_9 ey_9 => ?_)
                have h := h y_9 ey_9
                refine lv_istore_n (lv' := [(1, .int y_9), (0, .ref h0), (2, .int v2_2), (3, .int v3_4)]) hx hb dX3_looseParts_41 rfl hl (by decide) rfl (fun ls hl => ?_)
                obtain ⟨y_10, ey_10⟩ : ∃ z : Int32, z = v3_4 + (1 : Int32) := ⟨_, rfl⟩
                have h := h y_10 ey_10
                refine lv_iinc (v := y_10) (lv' := [(3, .int y_10), (1, .int y_9), (0, .ref h0), (2, .int v2_2)]) hx hb dX3_looseParts_42 hl (k := 3) rfl (by rw [ey_10]; rfl) (by decide) rfl (fun ls hl => ?_)
                refine lv_goto (tgt := 11) hx hb dX3_looseParts_45 (by decide) ?_
                exact ih_11 _ _ h _ (lv_sub hl [2, 1, 3, 0] rfl)
              refine lv_if_eq (tgt := 39) hx hb dX3_looseParts_27 (by decide) (fun c_27 => ?_) (fun c_27 => ?_)
              · have h := br1 h c_27
                refine lv_iconst (v := 0) hx hb dX3_looseParts_39 (by decide) ?_
                exact hJ_40 _ h _ (lv_sub hl [0, 2, 3] rfl)
              · have h := br2 h c_27
                refine lv_aload_n hx hb dX3_looseParts_30 rfl (lv_at hl 0 rfl) ?_
                refine lv_iload_n hx hb dX3_looseParts_31 rfl (lv_at hl 2 rfl) ?_
                refine lv_iload_n hx hb dX3_looseParts_32 rfl (lv_at hl 3 rfl) ?_
                refine vp_callSi (W.runV (As := [.int _, .int _]) (rest := [.int _]) ⟨hx, hb, hml, hown, hts⟩ (c_X3_loosePartsOf l dC dI h0 h1 h2 cI h) (cwV 2 hts gX3_looseParts_X3_loosePartsOf rfl rfl rfl (by decide +kernel) ⟨Nat.le_of_ble_eq_true rfl, Nat.le_of_ble_eq_true rfl⟩) ⟨fbR, va_recv hK hP (ci := 1) (q0 := 0) rfl rfl, fun U hU hW => ⟨rfl, by rw [hU]; exact hP, va_K.moved hW.alike hK⟩⟩ rfl rfl hl.1 rfl (lv_room (Nat.le_of_ble_eq_true rfl)) dX3_looseParts_33 ⟨Nat.zero_le _, Nat.zero_le _⟩) (fun r_7 h => ?_)
                refine lv_goto (tgt := 40) hx hb dX3_looseParts_36 (by decide) ?_
                exact hJ_40 _ h _ (lv_sub hl [0, 2, 3] rfl)
        exact loop_11 n _ _ h _ (lv_sub hl [1, 2, 3, 0] rfl)
  exact loop_4 n _ _ h _ (lv_sub hl [2, 1, 0] rfl)
set_option maxHeartbeats 4000000 in
set_option maxRecDepth 100000 in
theorem c_X3_coveredCubes (l : Launch) (dC : Nat → ClassId) (dI : Nat → Nat → Nat) (h0 h1 h2 : Nat) (cI : ClassId) {u : St} {post : Int32 → Prop} (h : P_X3_coveredCubes u post) : Met l yX3_coveredCubes wsX3_coveredCubes ({ frames := 2, cells := 0, slots := 0, locals := 44 } : Room) (RPre (dC, dI) vwCl (wS h0 h1 h2 cI u) [(cI, .int)] [.ref h0]) (vp_Si post) 0 0 (fun _ => False) := by
  refine Met.ofW (cc := cX3_coveredCubes) (maxL := 4) (ret := (some .int)) (by decide) rfl ?_
  intro p e s m args below meth c s₁ B hml hv
  obtain ⟨rfl, hP, hK⟩ := hv
  have hx := B.exec
  have hb := B.bytes
  have hr := B.returns
  have hts := atoms_spec (ws := wsX3_coveredCubes) B.pre
  have hown : s.vm.findClass RX3 = some m.cls := findClass_of_methodNamed B.named
  have hlocks := B.notSynchronized
  have hl := lv_entry ([.ref h0]) (n := 4) (Nat.le_of_ble_eq_true rfl)
  rw [lg_entry_eq]
  generalize (lg_sl ([.ref h0]) ++ List.replicate (4 - (lg_sl ([.ref h0])).length) Slot.unset).toArray = ls at hl ⊢
  have hl : lv_has ls 4 [(0, .ref h0)] := hl
  have i_X3 : ∀ w ∈ u_ws RX3 TX3 7, w ∈ wsX3_coveredCubes := by decide +kernel
  have f_18 := hts (.fieldLink RX3 18 "SliceBody$Solid" "wide" "I") (by decide +kernel)
  have f_22 := hts (.fieldLink RX3 22 "SliceBody$Solid" "deep" "I") (by decide +kernel)
  unfold P_X3_coveredCubes at h
  refine lv_iconst (v := 0) hx hb dX3_coveredCubes_0 (by decide) ?_
  refine lv_istore_n (lv' := [(1, .int (0 : Int32)), (0, .ref h0)]) hx hb dX3_coveredCubes_1 rfl hl (by decide) rfl (fun ls hl => ?_)
  refine lv_iconst (v := 0) hx hb dX3_coveredCubes_2 (by decide) ?_
  refine lv_istore_n (lv' := [(2, .int (0 : Int32)), (1, .int (0 : Int32)), (0, .ref h0)]) hx hb dX3_coveredCubes_3 rfl hl (by decide) rfl (fun ls hl => ?_)
  obtain ⟨K_4, hKi_4, h⟩ := jnE1 h
  have hK_4 : ∀ (v1_14 : Int32), K_4 v1_14 → ∀ (ls : Array Slot), lv_has ls 4 [(1, .int v1_14)] → W p l e (headSpec wsX3_coveredCubes ({ frames := 2, cells := 0, slots := 0, locals := 44 } : Room)).room s m ([.ref h0] : List Value).toArray below meth c s.heap [] 0 0 (MQ below (vp_Si post) ([.ref h0] : List Value).toArray s 0 0 (fun _ => False)) (F0 m 64 ls []) := by
    intro v1_14 h ls hl
    have h := hKi_4 _ h
    refine lv_iload_n hx hb dX3_coveredCubes_64 rfl (lv_at hl 0 rfl) ?_
    exact W.iret hx hb hr (fun t ht _ => ⟨_, rfl, h, ht⟩) (fun q hq => by cases hq) dX3_coveredCubes_65
  obtain ⟨n, h⟩ := h
  have loop_4 : ∀ (n : Nat) (v1_1 : Int32) (v2_2 : Int32), L_X3_coveredCubes_4 post K_4 u n v1_1 v2_2 → ∀ (ls : Array Slot), lv_has ls 4 [(0, .ref h0), (1, .int v1_1), (2, .int v2_2)] → W p l e (headSpec wsX3_coveredCubes ({ frames := 2, cells := 0, slots := 0, locals := 44 } : Room)).room s m ([.ref h0] : List Value).toArray below meth c s.heap [] 0 0 (MQ below (vp_Si post) ([.ref h0] : List Value).toArray s 0 0 (fun _ => False)) (F0 m 4 ls []) := by
    intro n
    induction n with
    | zero => intro v1_1 v2_2 h; rw [L_X3_coveredCubes_4] at h; exact h.elim
    | succ n ih_4 =>
      intro v1_1 v2_2 h ls hl
      rw [L_X3_coveredCubes_4] at h
      refine lv_iload_n hx hb dX3_coveredCubes_4 rfl (lv_at hl 2 rfl) ?_
      refine lv_aload_n hx hb dX3_coveredCubes_5 rfl (lv_at hl 0 rfl) ?_
      refine va_get (D := (dC, dI)) (ci := 1) (v := .int (u.1 2)) (C := RX3) (T := TX3) (N := 7) hx hb hts i_X3 hown hK hP 0 rfl rfl 2 (by decide) f_18 (fun _ h9 => h9) rfl dX3_coveredCubes_6 ?_
      refine lv_icmp_ge (tgt := 64) hx hb dX3_coveredCubes_9 (by decide) (fun c_9 => ?_) (fun c_9 => ?_)
      · have h := br1 h c_9
        exact hK_4 _ h _ (lv_sub hl [1] rfl)
      · have h := br2 h c_9
        refine lv_iconst (v := 0) hx hb dX3_coveredCubes_12 (by decide) ?_
        refine lv_istore_n (lv' := [(3, .int (0 : Int32)), (0, .ref h0), (1, .int v1_1), (2, .int v2_2)]) hx hb dX3_coveredCubes_13 rfl hl (by decide) rfl (fun ls hl => ?_)
        obtain ⟨K_14, hKi_14, h⟩ := jnE1 h
        have hK_14 : ∀ (v1_12 : Int32), K_14 v1_12 → ∀ (ls : Array Slot), lv_has ls 4 [(0, .ref h0), (1, .int v1_12), (2, .int v2_2)] → W p l e (headSpec wsX3_coveredCubes ({ frames := 2, cells := 0, slots := 0, locals := 44 } : Room)).room s m ([.ref h0] : List Value).toArray below meth c s.heap [] 0 0 (MQ below (vp_Si post) ([.ref h0] : List Value).toArray s 0 0 (fun _ => False)) (F0 m 58 ls []) := by
          intro v1_12 h ls hl
          have h := hKi_14 _ h
          obtain ⟨y_13, ey_13⟩ : ∃ z : Int32, z = v2_2 + (1 : Int32) := ⟨_, rfl⟩
          have h := h y_13 ey_13
          refine lv_iinc (v := y_13) (lv' := [(2, .int y_13), (0, .ref h0), (1, .int v1_12)]) hx hb dX3_coveredCubes_58 hl (k := 2) rfl (by rw [ey_13]; rfl) (by decide) rfl (fun ls hl => ?_)
          refine lv_goto (tgt := 4) hx hb dX3_coveredCubes_61 (by decide) ?_
          exact ih_4 _ _ h _ (lv_sub hl [1, 2, 0] rfl)
        obtain ⟨n, h⟩ := h
        have loop_14 : ∀ (n : Nat) (v1_3 : Int32) (v3_4 : Int32), L_X3_coveredCubes_14 post K_14 u v2_2 n v1_3 v3_4 → ∀ (ls : Array Slot), lv_has ls 4 [(0, .ref h0), (1, .int v1_3), (2, .int v2_2), (3, .int v3_4)] → W p l e (headSpec wsX3_coveredCubes ({ frames := 2, cells := 0, slots := 0, locals := 44 } : Room)).room s m ([.ref h0] : List Value).toArray below meth c s.heap [] 0 0 (MQ below (vp_Si post) ([.ref h0] : List Value).toArray s 0 0 (fun _ => False)) (F0 m 14 ls []) := by
          intro n
          induction n with
          | zero => intro v1_3 v3_4 h; rw [L_X3_coveredCubes_14] at h; exact h.elim
          | succ n ih_14 =>
            intro v1_3 v3_4 h ls hl
            rw [L_X3_coveredCubes_14] at h
            refine lv_iload_n hx hb dX3_coveredCubes_14 rfl (lv_at hl 3 rfl) ?_
            refine lv_aload_n hx hb dX3_coveredCubes_15 rfl (lv_at hl 0 rfl) ?_
            refine va_get (D := (dC, dI)) (ci := 1) (v := .int (u.1 3)) (C := RX3) (T := TX3) (N := 7) hx hb hts i_X3 hown hK hP 0 rfl rfl 3 (by decide) f_22 (fun _ h9 => h9) rfl dX3_coveredCubes_16 ?_
            refine lv_icmp_ge (tgt := 58) hx hb dX3_coveredCubes_19 (by decide) (fun c_19 => ?_) (fun c_19 => ?_)
            · have h := br1 h c_19
              exact hK_14 _ h _ (lv_sub hl [0, 1, 2] rfl)
            · have h := br2 h c_19
              refine lv_aload_n hx hb dX3_coveredCubes_22 rfl (lv_at hl 0 rfl) ?_
              refine lv_iconst (v := 0) hx hb dX3_coveredCubes_23 (by decide) ?_
              refine lv_iload_n hx hb dX3_coveredCubes_24 rfl (lv_at hl 2 rfl) ?_
              refine vp_callSi (W.runV (As := [.int _, .int _]) (rest := []) ⟨hx, hb, hml, hown, hts⟩ (c_X3_isChosen l dC dI h0 h1 h2 cI h) (cwV 2 hts gX3_coveredCubes_X3_isChosen rfl rfl rfl (by decide +kernel) ⟨Nat.le_of_ble_eq_true rfl, Nat.le_of_ble_eq_true rfl⟩) ⟨fbR, va_recv hK hP (ci := 1) (q0 := 0) rfl rfl, fun U hU hW => ⟨rfl, by rw [hU]; exact hP, va_K.moved hW.alike hK⟩⟩ rfl rfl hl.1 rfl (lv_room (Nat.le_of_ble_eq_true rfl)) dX3_coveredCubes_25 ⟨Nat.zero_le _, Nat.zero_le _⟩) (fun r_5 h => ?_)
              obtain ⟨J_52, hJi_52, h⟩ := jnE1 h
              have hJ_52 : ∀ (v1_10 : Int32), J_52 v1_10 → ∀ (ls : Array Slot), lv_has ls 4 [(0, .ref h0), (1, .int v1_10), (2, .int v2_2), (3, .int v3_4)] → W p l e (headSpec wsX3_coveredCubes ({ frames := 2, cells := 0, slots := 0, locals := 44 } : Room)).room s m ([.ref h0] : List Value).toArray below meth c s.heap [] 0 0 (MQ below (vp_Si post) ([.ref h0] : List Value).toArray s 0 0 (fun _ => False)) (F0 m 52 ls []) := by
                intro v1_10 h ls hl
                have h := hJi_52 _ h
                obtain ⟨y_11, ey_11⟩ : ∃ z : Int32, z = v3_4 + (1 : Int32) := ⟨_, rfl⟩
                have h := h y_11 ey_11
                refine lv_iinc (v := y_11) (lv' := [(3, .int y_11), (0, .ref h0), (1, .int v1_10), (2, .int v2_2)]) hx hb dX3_coveredCubes_52 hl (k := 3) rfl (by rw [ey_11]; rfl) (by decide) rfl (fun ls hl => ?_)
                refine lv_goto (tgt := 14) hx hb dX3_coveredCubes_55 (by decide) ?_
                exact ih_14 _ _ h _ (lv_sub hl [1, 2, 3, 0] rfl)
              obtain ⟨J_40, hJi_40, h⟩ := jnE0 h
              have hJ_40 : J_40 → ∀ (ls : Array Slot), lv_has ls 4 [(0, .ref h0), (1, .int v1_3), (2, .int v2_2), (3, .int v3_4)] → W p l e (headSpec wsX3_coveredCubes ({ frames := 2, cells := 0, slots := 0, locals := 44 } : Room)).room s m ([.ref h0] : List Value).toArray below meth c s.heap [] 0 0 (MQ below (vp_Si post) ([.ref h0] : List Value).toArray s 0 0 (fun _ => False)) (F0 m 40 ls []) := by
                intro  h ls hl
                have h := hJi_40 h
                refine lv_iload_n hx hb dX3_coveredCubes_40 rfl (lv_at hl 1 rfl) ?_
                refine lv_aload_n hx hb dX3_coveredCubes_41 rfl (lv_at hl 0 rfl) ?_
                refine lv_iload_n hx hb dX3_coveredCubes_42 rfl (lv_at hl 2 rfl) ?_
                refine lv_iload_n hx hb dX3_coveredCubes_43 rfl (lv_at hl 3 rfl) ?_
                refine vp_callSi (W.runV (As := [.int _, .int _]) (rest := [.int _]) ⟨hx, hb, hml, hown, hts⟩ (c_X3_columnAt l dC dI h0 h1 h2 cI h) (cwV 2 hts gX3_coveredCubes_X3_columnAt rfl rfl rfl (by decide +kernel) ⟨Nat.le_of_ble_eq_true rfl, Nat.le_of_ble_eq_true rfl⟩) ⟨fbR, va_recv hK hP (ci := 1) (q0 := 0) rfl rfl, fun U hU hW => ⟨rfl, by rw [hU]; exact hP, va_K.moved hW.alike hK⟩⟩ rfl rfl hl.1 rfl (lv_room (Nat.le_of_ble_eq_true rfl)) dX3_coveredCubes_44 ⟨Nat.zero_le _, Nat.zero_le _⟩) (fun r_7 h => ?_)
                refine vp_callSi (W.runS (As := [.int _]) (rest := [.int _]) ⟨hx, hb, hml, hown, hts⟩ (c_J6_bitCount_0f7a4 l h) (va_cwS 1 hts gX3_coveredCubes_J6_bitCount_0f7a4 rfl rfl rfl (by decide +kernel) ⟨Nat.le_of_ble_eq_true rfl, Nat.le_of_ble_eq_true rfl⟩) ⟨fun _ _ _ _ q => q, fun _ _ _ => ⟨rfl, trivial⟩⟩ rfl rfl hl.1 rfl (lv_room (Nat.le_of_ble_eq_true rfl)) dX3_coveredCubes_47 ⟨Nat.zero_le _, Nat.zero_le _⟩) (fun r_8 h => ?_)
                refine lv_iadd hx hb dX3_coveredCubes_50 ?_
                refine lv_topi (fun y_9 ey_9 => ?_)
                have h := h y_9 ey_9
                refine lv_istore_n (lv' := [(1, .int y_9), (0, .ref h0), (2, .int v2_2), (3, .int v3_4)]) hx hb dX3_coveredCubes_51 rfl hl (by decide) rfl (fun ls hl => ?_)
                exact hJ_52 _ h _ (lv_sub hl [1, 0, 2, 3] rfl)
              refine lv_if_ne (tgt := 40) hx hb dX3_coveredCubes_28 (by decide) (fun c_28 => ?_) (fun c_28 => ?_)
              · have h := br2 h c_28
                exact hJ_40 h _ (lv_sub hl [0, 1, 2, 3] rfl)
              · have h := br1 h c_28
                refine lv_aload_n hx hb dX3_coveredCubes_31 rfl (lv_at hl 0 rfl) ?_
                refine lv_iconst (v := 1) hx hb dX3_coveredCubes_32 (by decide) ?_
                refine lv_iload_n hx hb dX3_coveredCubes_33 rfl (lv_at hl 3 rfl) ?_
                refine vp_callSi (W.runV (As := [.int _, .int _]) (rest := []) ⟨hx, hb, hml, hown, hts⟩ (c_X3_isChosen l dC dI h0 h1 h2 cI h) (cwV 2 hts gX3_coveredCubes_X3_isChosen rfl rfl rfl (by decide +kernel) ⟨Nat.le_of_ble_eq_true rfl, Nat.le_of_ble_eq_true rfl⟩) ⟨fbR, va_recv hK hP (ci := 1) (q0 := 0) rfl rfl, fun U hU hW => ⟨rfl, by rw [hU]; exact hP, va_K.moved hW.alike hK⟩⟩ rfl rfl hl.1 rfl (lv_room (Nat.le_of_ble_eq_true rfl)) dX3_coveredCubes_34 ⟨Nat.zero_le _, Nat.zero_le _⟩) (fun r_6 h => ?_)
                refine lv_if_eq (tgt := 52) hx hb dX3_coveredCubes_37 (by decide) (fun c_37 => ?_) (fun c_37 => ?_)
                · have h := br1 h c_37
                  exact hJ_52 _ h _ (lv_sub hl [0, 1, 2, 3] rfl)
                · have h := br2 h c_37
                  exact hJ_40 h _ (lv_sub hl [0, 1, 2, 3] rfl)
        exact loop_14 n _ _ h _ (lv_sub hl [1, 2, 3, 0] rfl)
  exact loop_4 n _ _ h _ (lv_sub hl [2, 1, 0] rfl)
set_option maxHeartbeats 4000000 in
set_option maxRecDepth 100000 in
theorem c_X3_reckonGains (l : Launch) (dC : Nat → ClassId) (dI : Nat → Nat → Nat) (h0 h1 h2 : Nat) (cI : ClassId) (sz : Nat) {u : St} {x1 : Int32} {post : St → Prop} (h : P_X3_reckonGains u x1 post) : Met l yX3_reckonGains wsX3_reckonGains ({ frames := 3, cells := 0, slots := 0, locals := 66 } : Room) (MPre (dC, dI) vwCl (wS h0 h1 h2 cI u) [(cI, .int)] sz [.ref h0, .int x1]) (va_Qv post (fun (u2 : St) (t : State) => va_P (dC, dI) vwCl (wS h0 h1 h2 cI u2) t.heap) (va_A (wS h0 h1 h2 cI u) sz)) 0 0 (va_A (wS h0 h1 h2 cI u) sz) := by
  refine Met.ofW (cc := cX3_reckonGains) (maxL := 5) (ret := none) (by decide) rfl ?_
  intro p e s m args below meth c s₁ B hml hv
  obtain ⟨rfl, hsz, hP, hK, hD0⟩ := hv
  have hx := B.exec
  have hb := B.bytes
  have hr := B.returns
  have hts := atoms_spec (ws := wsX3_reckonGains) B.pre
  have hown : s.vm.findClass RX3 = some m.cls := findClass_of_methodNamed B.named
  have hlocks := B.notSynchronized
  subst hsz
  have hD1 := hD0.self (sz := s.heap.size)
  generalize hAe : va_A (wS h0 h1 h2 cI u) s.heap.size = A at hD1 ⊢
  have hA : ∀ q : Nat, s.heap.size ≤ q → A q := fun q h => by rw [← hAe]; exact Or.inr h
  have hD : ∀ z, va_D A (wS h0 h1 h2 cI z) := fun z => va_Dsame hD1 rfl
  have hS : va_S A s.heap s.heap [] := va_S.rf
  have hl := lv_entry ([.ref h0, .int x1]) (n := 5) (Nat.le_of_ble_eq_true rfl)
  rw [lg_entry_eq]
  generalize (lg_sl ([.ref h0, .int x1]) ++ List.replicate (5 - (lg_sl ([.ref h0, .int x1])).length) Slot.unset).toArray = ls at hl ⊢
  have hl : lv_has ls 5 [(0, .ref h0), (1, .int x1)] := hl
  have i_X3 : ∀ w ∈ u_ws RX3 TX3 7, w ∈ wsX3_reckonGains := by decide +kernel
  have f_15 := hts (.fieldLink RX3 15 "SliceBody$Solid" "gains" "[I") (by decide +kernel)
  have f_18 := hts (.fieldLink RX3 18 "SliceBody$Solid" "wide" "I") (by decide +kernel)
  have f_22 := hts (.fieldLink RX3 22 "SliceBody$Solid" "deep" "I") (by decide +kernel)
  unfold P_X3_reckonGains at h
  refine lv_iconst (v := 0) hx hb dX3_reckonGains_0 (by decide) ?_
  refine lv_istore_n (lv' := [(2, .int (0 : Int32)), (0, .ref h0), (1, .int x1)]) hx hb dX3_reckonGains_1 rfl hl (by decide) rfl (fun ls hl => ?_)
  obtain ⟨K_2, hKi_2, h⟩ := jnE1 h
  have hK_2 : ∀ (u_16 : St), K_2 u_16 → ∀ (H : Heap) (locs : List Loc), va_P (dC, dI) vwCl (wS h0 h1 h2 cI u_16) H → va_S A s.heap H locs → ∀ (ls : Array Slot), lv_has ls 5 [] → W p l e (headSpec wsX3_reckonGains ({ frames := 3, cells := 0, slots := 0, locals := 66 } : Room)).room s m ([.ref h0, .int x1] : List Value).toArray below meth c H locs 0 0 (MQ below (va_Qv post (fun (u2 : St) (t : State) => va_P (dC, dI) vwCl (wS h0 h1 h2 cI u2) t.heap) A) ([.ref h0, .int x1] : List Value).toArray s 0 0 A) (F0 m 94 ls []) := by
    intro u_16 h H locs hP hS ls hl
    have h := hKi_2 _ h
    exact W.vret hx hb hr (fun t ht _ => ⟨⟨u_16, rfl, h, hPr ht hP⟩, hS.F ht⟩) hS.2.2 dX3_reckonGains_94
  obtain ⟨n, h⟩ := h
  have loop_2 : ∀ (n : Nat) (v2_1 : Int32) (u_2 : St), L_X3_reckonGains_2 post K_2 x1 n v2_1 u_2 → ∀ (H : Heap) (locs : List Loc), va_P (dC, dI) vwCl (wS h0 h1 h2 cI u_2) H → va_S A s.heap H locs → ∀ (ls : Array Slot), lv_has ls 5 [(0, .ref h0), (1, .int x1), (2, .int v2_1)] → W p l e (headSpec wsX3_reckonGains ({ frames := 3, cells := 0, slots := 0, locals := 66 } : Room)).room s m ([.ref h0, .int x1] : List Value).toArray below meth c H locs 0 0 (MQ below (va_Qv post (fun (u2 : St) (t : State) => va_P (dC, dI) vwCl (wS h0 h1 h2 cI u2) t.heap) A) ([.ref h0, .int x1] : List Value).toArray s 0 0 A) (F0 m 2 ls []) := by
    intro n
    induction n with
    | zero => intro v2_1 u_2 h; rw [L_X3_reckonGains_2] at h; exact h.elim
    | succ n ih_2 =>
      intro v2_1 u_2 h H locs hP hS ls hl
      rw [L_X3_reckonGains_2] at h
      refine lv_iload_n hx hb dX3_reckonGains_2 rfl (lv_at hl 2 rfl) ?_
      refine lv_aload_n hx hb dX3_reckonGains_3 rfl (lv_at hl 0 rfl) ?_
      refine va_get (D := (dC, dI)) (ci := 1) (v := .int (u_2.1 3)) (C := RX3) (T := TX3) (N := 7) hx hb hts i_X3 hown hK hP 0 rfl rfl 3 (by decide) f_22 (fun _ h9 => h9) rfl dX3_reckonGains_4 ?_
      refine lv_icmp_ge (tgt := 94) hx hb dX3_reckonGains_7 (by decide) (fun c_7 => ?_) (fun c_7 => ?_)
      · have h := br1 h c_7
        exact hK_2 _ h _ _ hP hS _ (lv_sub hl [] rfl)
      · have h := br2 h c_7
        refine lv_iload_n hx hb dX3_reckonGains_10 rfl (lv_at hl 2 rfl) ?_
        refine lv_aload_n hx hb dX3_reckonGains_11 rfl (lv_at hl 0 rfl) ?_
        refine va_get (D := (dC, dI)) (ci := 1) (v := .ref h2) (C := RX3) (T := TX3) (N := 7) hx hb hts i_X3 hown hK hP 0 rfl rfl 1 (by decide) f_15 (fun _ h9 => h9) rfl dX3_reckonGains_12 ?_
        refine va_alen (v := 8) hx hb hK hP 2 0 rfl rfl rfl dX3_reckonGains_15 ?_
        refine lv_icmp_ge (tgt := 94) hx hb dX3_reckonGains_16 (by decide) (fun c_16 => ?_) (fun c_16 => ?_)
        · have h := br1 h c_16
          exact hK_2 _ h _ _ hP hS _ (lv_sub hl [] rfl)
        · have h := br2 h c_16
          refine lv_iconst (v := 0) hx hb dX3_reckonGains_19 (by decide) ?_
          refine lv_istore_n (lv' := [(3, .int (0 : Int32)), (0, .ref h0), (1, .int x1), (2, .int v2_1)]) hx hb dX3_reckonGains_20 rfl hl (by decide) rfl (fun ls hl => ?_)
          refine lv_iconst (v := 0) hx hb dX3_reckonGains_21 (by decide) ?_
          refine lv_istore (lv' := [(4, .int (0 : Int32)), (3, .int (0 : Int32)), (0, .ref h0), (1, .int x1), (2, .int v2_1)]) hx hb dX3_reckonGains_22 hl (by decide) rfl (fun ls hl => ?_)
          obtain ⟨K_24, hKi_24, h⟩ := jnE1 h
          have hK_24 : ∀ (v3_13 : Int32), K_24 v3_13 → ∀ (H : Heap) (locs : List Loc), va_P (dC, dI) vwCl (wS h0 h1 h2 cI u_2) H → va_S A s.heap H locs → ∀ (ls : Array Slot), lv_has ls 5 [(0, .ref h0), (1, .int x1), (2, .int v2_1), (3, .int v3_13)] → W p l e (headSpec wsX3_reckonGains ({ frames := 3, cells := 0, slots := 0, locals := 66 } : Room)).room s m ([.ref h0, .int x1] : List Value).toArray below meth c H locs 0 0 (MQ below (va_Qv post (fun (u2 : St) (t : State) => va_P (dC, dI) vwCl (wS h0 h1 h2 cI u2) t.heap) A) ([.ref h0, .int x1] : List Value).toArray s 0 0 A) (F0 m 81 ls []) := by
            intro v3_13 h H locs hP hS ls hl
            have h := hKi_24 _ h
            refine lv_aload_n hx hb dX3_reckonGains_81 rfl (lv_at hl 0 rfl) ?_
            refine va_get (D := (dC, dI)) (ci := 1) (v := .ref h2) (C := RX3) (T := TX3) (N := 7) hx hb hts i_X3 hown hK hP 0 rfl rfl 1 (by decide) f_15 (fun _ h9 => h9) rfl dX3_reckonGains_82 ?_
            refine lv_iload_n hx hb dX3_reckonGains_85 rfl (lv_at hl 2 rfl) ?_
            refine lv_iload_n hx hb dX3_reckonGains_86 rfl (lv_at hl 3 rfl) ?_
            obtain ⟨hi, h⟩ := h
            refine va_iast hx hb hK hP (hD _) hS 2 0 rfl rfl hi dX3_reckonGains_87 (fun H locs hP _ hS => ?_)
            obtain ⟨u_14, eu_14⟩ : ∃ z : St, z = (u_2.1, va_up u_2.2 1 (upd (u_2.2 1) v2_1.toNatClampNeg v3_13)) := ⟨_, rfl⟩
            have h := h u_14 eu_14
            have hP : va_P (dC, dI) vwCl (wS h0 h1 h2 cI u_14) H := by rw [eu_14]; exact hP
            obtain ⟨y_15, ey_15⟩ : ∃ z : Int32, z = v2_1 + (1 : Int32) := ⟨_, rfl⟩
            have h := h y_15 ey_15
            refine lv_iinc (v := y_15) (lv' := [(2, .int y_15), (0, .ref h0), (1, .int x1), (3, .int v3_13)]) hx hb dX3_reckonGains_88 hl (k := 2) rfl (by rw [ey_15]; rfl) (by decide) rfl (fun ls hl => ?_)
            refine lv_goto (tgt := 2) hx hb dX3_reckonGains_91 (by decide) ?_
            exact ih_2 _ _ h _ _ hP hS _ (lv_sub hl [1, 2, 0] rfl)
          obtain ⟨n, h⟩ := h
          have loop_24 : ∀ (n : Nat) (v3_3 : Int32) (v4_4 : Int32), L_X3_reckonGains_24 post K_24 x1 v2_1 u_2 n v3_3 v4_4 → ∀ (H : Heap) (locs : List Loc), va_P (dC, dI) vwCl (wS h0 h1 h2 cI u_2) H → va_S A s.heap H locs → ∀ (ls : Array Slot), lv_has ls 5 [(0, .ref h0), (1, .int x1), (2, .int v2_1), (3, .int v3_3), (4, .int v4_4)] → W p l e (headSpec wsX3_reckonGains ({ frames := 3, cells := 0, slots := 0, locals := 66 } : Room)).room s m ([.ref h0, .int x1] : List Value).toArray below meth c H locs 0 0 (MQ below (va_Qv post (fun (u2 : St) (t : State) => va_P (dC, dI) vwCl (wS h0 h1 h2 cI u2) t.heap) A) ([.ref h0, .int x1] : List Value).toArray s 0 0 A) (F0 m 24 ls []) := by
            intro n
            induction n with
            | zero => intro v3_3 v4_4 h; rw [L_X3_reckonGains_24] at h; exact h.elim
            | succ n ih_24 =>
              intro v3_3 v4_4 h H locs hP hS ls hl
              rw [L_X3_reckonGains_24] at h
              refine lv_iload hx hb dX3_reckonGains_24 (lv_at hl 4 rfl) ?_
              refine lv_aload_n hx hb dX3_reckonGains_26 rfl (lv_at hl 0 rfl) ?_
              refine va_get (D := (dC, dI)) (ci := 1) (v := .int (u_2.1 2)) (C := RX3) (T := TX3) (N := 7) hx hb hts i_X3 hown hK hP 0 rfl rfl 2 (by decide) f_18 (fun _ h9 => h9) rfl dX3_reckonGains_27 ?_
              refine lv_icmp_ge (tgt := 81) hx hb dX3_reckonGains_30 (by decide) (fun c_30 => ?_) (fun c_30 => ?_)
              · have h := br1 h c_30
                exact hK_24 _ h _ _ hP hS _ (lv_sub hl [0, 1, 2, 3] rfl)
              · have h := br2 h c_30
                refine lv_iload_n hx hb dX3_reckonGains_33 rfl (lv_at hl 1 rfl) ?_
                refine lv_iload hx hb dX3_reckonGains_34 (lv_at hl 4 rfl) ?_
                refine vp_callSi (W.runS (As := [.int _, .int _]) (rest := []) ⟨hx, hb, hml, hown, hts⟩ (c_X1_hasBit l h) (va_cwS 2 hts gX3_reckonGains_X1_hasBit rfl rfl rfl (by decide +kernel) ⟨Nat.le_of_ble_eq_true rfl, Nat.le_of_ble_eq_true rfl⟩) ⟨fun _ _ _ _ q => q, fun _ _ _ => ⟨rfl, trivial⟩⟩ rfl rfl hl.1 rfl (lv_room (Nat.le_of_ble_eq_true rfl)) dX3_reckonGains_36 ⟨Nat.zero_le _, Nat.zero_le _⟩) (fun r_5 h => ?_)
                obtain ⟨J_75, hJi_75, h⟩ := jnE1 h
                have hJ_75 : ∀ (v3_11 : Int32), J_75 v3_11 → ∀ (H : Heap) (locs : List Loc), va_P (dC, dI) vwCl (wS h0 h1 h2 cI u_2) H → va_S A s.heap H locs → ∀ (ls : Array Slot), lv_has ls 5 [(0, .ref h0), (1, .int x1), (2, .int v2_1), (3, .int v3_11), (4, .int v4_4)] → W p l e (headSpec wsX3_reckonGains ({ frames := 3, cells := 0, slots := 0, locals := 66 } : Room)).room s m ([.ref h0, .int x1] : List Value).toArray below meth c H locs 0 0 (MQ below (va_Qv post (fun (u2 : St) (t : State) => va_P (dC, dI) vwCl (wS h0 h1 h2 cI u2) t.heap) A) ([.ref h0, .int x1] : List Value).toArray s 0 0 A) (F0 m 75 ls []) := by
                  intro v3_11 h H locs hP hS ls hl
                  have h := hJi_75 _ h
                  obtain ⟨y_12, ey_12⟩ : ∃ z : Int32, z = v4_4 + (1 : Int32) := ⟨_, rfl⟩
                  have h := h y_12 ey_12
                  refine lv_iinc (v := y_12) (lv' := [(4, .int y_12), (0, .ref h0), (1, .int x1), (2, .int v2_1), (3, .int v3_11)]) hx hb dX3_reckonGains_75 hl (k := 4) rfl (by rw [ey_12]; rfl) (by decide) rfl (fun ls hl => ?_)
                  refine lv_goto (tgt := 24) hx hb dX3_reckonGains_78 (by decide) ?_
                  exact ih_24 _ _ h _ _ hP hS _ (lv_sub hl [1, 2, 3, 4, 0] rfl)
                refine lv_if_ne (tgt := 62) hx hb dX3_reckonGains_39 (by decide) (fun c_39 => ?_) (fun c_39 => ?_)
                · have h := br2 h c_39
                  refine lv_aload_n hx hb dX3_reckonGains_62 rfl (lv_at hl 0 rfl) ?_
                  refine lv_iload hx hb dX3_reckonGains_63 (lv_at hl 4 rfl) ?_
                  refine lv_iload_n hx hb dX3_reckonGains_65 rfl (lv_at hl 2 rfl) ?_
                  refine vp_callSi (W.runV (As := [.int _, .int _]) (rest := []) ⟨hx, hb, hml, hown, hts⟩ (c_X3_wouldCatch l dC dI h0 h1 h2 cI h) (cwV 2 hts gX3_reckonGains_X3_wouldCatch rfl rfl rfl (by decide +kernel) ⟨Nat.le_of_ble_eq_true rfl, Nat.le_of_ble_eq_true rfl⟩) ⟨fbR, va_recv hK hP (ci := 1) (q0 := 0) rfl rfl, fun U hU hW => ⟨rfl, by rw [hU]; exact hP, va_K.moved hW.alike hK⟩⟩ rfl rfl hl.1 rfl (lv_room (Nat.le_of_ble_eq_true rfl)) dX3_reckonGains_66 ⟨Nat.zero_le _, Nat.zero_le _⟩) (fun r_6 h => ?_)
                  refine lv_if_eq (tgt := 75) hx hb dX3_reckonGains_69 (by decide) (fun c_69 => ?_) (fun c_69 => ?_)
                  · have h := br1 h c_69
                    exact hJ_75 _ h _ _ hP hS _ (lv_sub hl [0, 1, 2, 3, 4] rfl)
                  · have h := br2 h c_69
                    obtain ⟨y_7, ey_7⟩ : ∃ z : Int32, z = v3_3 + (-1 : Int32) := ⟨_, rfl⟩
                    have h := h y_7 ey_7
                    refine lv_iinc (v := y_7) (lv' := [(3, .int y_7), (0, .ref h0), (1, .int x1), (2, .int v2_1), (4, .int v4_4)]) hx hb dX3_reckonGains_72 hl (k := 3) rfl (by rw [ey_7]; rfl) (by decide) rfl (fun ls hl => ?_)
                    exact hJ_75 _ h _ _ hP hS _ (lv_sub hl [1, 2, 3, 0, 4] rfl)
                · have h := br1 h c_39
                  refine lv_iload_n hx hb dX3_reckonGains_42 rfl (lv_at hl 3 rfl) ?_
                  refine lv_sipush (v := 128) hx hb dX3_reckonGains_43 (by decide) ?_
                  refine lv_aload_n hx hb dX3_reckonGains_46 rfl (lv_at hl 0 rfl) ?_
                  refine lv_iload hx hb dX3_reckonGains_47 (lv_at hl 4 rfl) ?_
                  refine lv_iload_n hx hb dX3_reckonGains_49 rfl (lv_at hl 2 rfl) ?_
                  refine vp_callSi (W.runV (As := [.int _, .int _]) (rest := [.int _, .int _]) ⟨hx, hb, hml, hown, hts⟩ (c_X3_columnAt l dC dI h0 h1 h2 cI h) (cwV 2 hts gX3_reckonGains_X3_columnAt rfl rfl rfl (by decide +kernel) ⟨Nat.le_of_ble_eq_true rfl, Nat.le_of_ble_eq_true rfl⟩) ⟨fbR, va_recv hK hP (ci := 1) (q0 := 0) rfl rfl, fun U hU hW => ⟨rfl, by rw [hU]; exact hP, va_K.moved hW.alike hK⟩⟩ rfl rfl hl.1 rfl (lv_room (Nat.le_of_ble_eq_true rfl)) dX3_reckonGains_50 ⟨Nat.zero_le _, Nat.zero_le _⟩) (fun r_8 h => ?_)
                  refine vp_callSi (W.runS (As := [.int _]) (rest := [.int _, .int _]) ⟨hx, hb, hml, hown, hts⟩ (c_J6_bitCount_0f7a4 l h) (va_cwS 1 hts gX3_reckonGains_J6_bitCount_0f7a4 rfl rfl rfl (by decide +kernel) ⟨Nat.le_of_ble_eq_true rfl, Nat.le_of_ble_eq_true rfl⟩) ⟨fun _ _ _ _ q => q, fun _ _ _ => ⟨rfl, trivial⟩⟩ rfl rfl hl.1 rfl (lv_room (Nat.le_of_ble_eq_true rfl)) dX3_reckonGains_53 ⟨Nat.zero_le _, Nat.zero_le _⟩) (fun r_9 h => ?_)
                  refine lv_imul hx hb dX3_reckonGains_56 ?_
                  refine lv_iadd hx hb dX3_reckonGains_57 ?_
                  refine lv_topi (fun y_10 ey_10 => ?_)
                  have h := h y_10 ey_10
                  refine lv_istore_n (lv' := [(3, .int y_10), (0, .ref h0), (1, .int x1), (2, .int v2_1), (4, .int v4_4)]) hx hb dX3_reckonGains_58 rfl hl (by decide) rfl (fun ls hl => ?_)
                  refine lv_goto (tgt := 75) hx hb dX3_reckonGains_59 (by decide) ?_
                  exact hJ_75 _ h _ _ hP hS _ (lv_sub hl [1, 2, 3, 0, 4] rfl)
          exact loop_24 n _ _ h _ _ hP hS _ (lv_sub hl [2, 3, 4, 1, 0] rfl)
  exact loop_2 n _ _ h _ _ hP hS _ (lv_sub hl [1, 2, 0] rfl)
set_option maxHeartbeats 4000000 in
set_option maxRecDepth 100000 in
theorem c_X3_greatestGains (l : Launch) (dC : Nat → ClassId) (dI : Nat → Nat → Nat) (h0 h1 h2 : Nat) (cI : ClassId) {u : St} {x1 : Int32} {post : Int32 → Prop} (h : P_X3_greatestGains u x1 post) : Met l yX3_greatestGains wsX3_greatestGains ({ frames := 1, cells := 0, slots := 0, locals := 21 } : Room) (RPre (dC, dI) vwCl (wS h0 h1 h2 cI u) [(cI, .int)] [.ref h0, .int x1]) (vp_Si post) 0 0 (fun _ => False) := by
  refine Met.ofW (cc := cX3_greatestGains) (maxL := 6) (ret := (some .int)) (by decide) rfl ?_
  intro p e s m args below meth c s₁ B hml hv
  obtain ⟨rfl, hP, hK⟩ := hv
  have hx := B.exec
  have hb := B.bytes
  have hr := B.returns
  have hts := atoms_spec (ws := wsX3_greatestGains) B.pre
  have hown : s.vm.findClass RX3 = some m.cls := findClass_of_methodNamed B.named
  have hlocks := B.notSynchronized
  have hl := lv_entry ([.ref h0, .int x1]) (n := 6) (Nat.le_of_ble_eq_true rfl)
  rw [lg_entry_eq]
  generalize (lg_sl ([.ref h0, .int x1]) ++ List.replicate (6 - (lg_sl ([.ref h0, .int x1])).length) Slot.unset).toArray = ls at hl ⊢
  have hl : lv_has ls 6 [(0, .ref h0), (1, .int x1)] := hl
  have i_X3 : ∀ w ∈ u_ws RX3 TX3 7, w ∈ wsX3_greatestGains := by decide +kernel
  have f_15 := hts (.fieldLink RX3 15 "SliceBody$Solid" "gains" "[I") (by decide +kernel)
  have f_22 := hts (.fieldLink RX3 22 "SliceBody$Solid" "deep" "I") (by decide +kernel)
  unfold P_X3_greatestGains at h
  refine lv_iconst (v := 0) hx hb dX3_greatestGains_0 (by decide) ?_
  refine lv_istore_n (lv' := [(2, .int (0 : Int32)), (0, .ref h0), (1, .int x1)]) hx hb dX3_greatestGains_1 rfl hl (by decide) rfl (fun ls hl => ?_)
  refine lv_iconst (v := 0) hx hb dX3_greatestGains_2 (by decide) ?_
  refine lv_istore_n (lv' := [(3, .int (0 : Int32)), (2, .int (0 : Int32)), (0, .ref h0), (1, .int x1)]) hx hb dX3_greatestGains_3 rfl hl (by decide) rfl (fun ls hl => ?_)
  obtain ⟨K_4, hKi_4, h⟩ := jnE1 h
  have hK_4 : ∀ (v2_12 : Int32), K_4 v2_12 → ∀ (ls : Array Slot), lv_has ls 6 [(2, .int v2_12)] → W p l e (headSpec wsX3_greatestGains ({ frames := 1, cells := 0, slots := 0, locals := 21 } : Room)).room s m ([.ref h0, .int x1] : List Value).toArray below meth c s.heap [] 0 0 (MQ below (vp_Si post) ([.ref h0, .int x1] : List Value).toArray s 0 0 (fun _ => False)) (F0 m 93 ls []) := by
    intro v2_12 h ls hl
    have h := hKi_4 _ h
    refine lv_iload_n hx hb dX3_greatestGains_93 rfl (lv_at hl 0 rfl) ?_
    exact W.iret hx hb hr (fun t ht _ => ⟨_, rfl, h, ht⟩) (fun q hq => by cases hq) dX3_greatestGains_94
  obtain ⟨n, h⟩ := h
  have loop_4 : ∀ (n : Nat) (v2_1 : Int32) (v3_2 : Int32), L_X3_greatestGains_4 post K_4 u x1 n v2_1 v3_2 → ∀ (ls : Array Slot), lv_has ls 6 [(0, .ref h0), (1, .int x1), (2, .int v2_1), (3, .int v3_2)] → W p l e (headSpec wsX3_greatestGains ({ frames := 1, cells := 0, slots := 0, locals := 21 } : Room)).room s m ([.ref h0, .int x1] : List Value).toArray below meth c s.heap [] 0 0 (MQ below (vp_Si post) ([.ref h0, .int x1] : List Value).toArray s 0 0 (fun _ => False)) (F0 m 4 ls []) := by
    intro n
    induction n with
    | zero => intro v2_1 v3_2 h; rw [L_X3_greatestGains_4] at h; exact h.elim
    | succ n ih_4 =>
      intro v2_1 v3_2 h ls hl
      rw [L_X3_greatestGains_4] at h
      refine lv_iload_n hx hb dX3_greatestGains_4 rfl (lv_at hl 3 rfl) ?_
      refine lv_iload_n hx hb dX3_greatestGains_5 rfl (lv_at hl 1 rfl) ?_
      refine lv_icmp_ge (tgt := 93) hx hb dX3_greatestGains_6 (by decide) (fun c_6 => ?_) (fun c_6 => ?_)
      · have h := br1 h c_6
        exact hK_4 _ h _ (lv_sub hl [2] rfl)
      · have h := br2 h c_6
        refine lv_iconst (v := (-1)) hx hb dX3_greatestGains_9 (by decide) ?_
        refine lv_istore (lv' := [(4, .int (-1 : Int32)), (0, .ref h0), (1, .int x1), (2, .int v2_1), (3, .int v3_2)]) hx hb dX3_greatestGains_10 hl (by decide) rfl (fun ls hl => ?_)
        refine lv_iconst (v := 0) hx hb dX3_greatestGains_12 (by decide) ?_
        refine lv_istore (lv' := [(5, .int (0 : Int32)), (4, .int (-1 : Int32)), (0, .ref h0), (1, .int x1), (2, .int v2_1), (3, .int v3_2)]) hx hb dX3_greatestGains_13 hl (by decide) rfl (fun ls hl => ?_)
        obtain ⟨K_15, hKi_15, h⟩ := jnE1 h
        have hK_15 : ∀ (v4_8 : Int32), K_15 v4_8 → ∀ (ls : Array Slot), lv_has ls 6 [(0, .ref h0), (1, .int x1), (2, .int v2_1), (3, .int v3_2), (4, .int v4_8)] → W p l e (headSpec wsX3_greatestGains ({ frames := 1, cells := 0, slots := 0, locals := 21 } : Room)).room s m ([.ref h0, .int x1] : List Value).toArray below meth c s.heap [] 0 0 (MQ below (vp_Si post) ([.ref h0, .int x1] : List Value).toArray s 0 0 (fun _ => False)) (F0 m 75 ls []) := by
          intro v4_8 h ls hl
          have h := hKi_15 _ h
          refine lv_iload hx hb dX3_greatestGains_75 (lv_at hl 4 rfl) ?_
          obtain ⟨J_87, hJi_87, h⟩ := jnE1 h
          have hJ_87 : ∀ (v2_10 : Int32), J_87 v2_10 → ∀ (ls : Array Slot), lv_has ls 6 [(0, .ref h0), (1, .int x1), (2, .int v2_10), (3, .int v3_2)] → W p l e (headSpec wsX3_greatestGains ({ frames := 1, cells := 0, slots := 0, locals := 21 } : Room)).room s m ([.ref h0, .int x1] : List Value).toArray below meth c s.heap [] 0 0 (MQ below (vp_Si post) ([.ref h0, .int x1] : List Value).toArray s 0 0 (fun _ => False)) (F0 m 87 ls []) := by
            intro v2_10 h ls hl
            have h := hJi_87 _ h
            obtain ⟨y_11, ey_11⟩ : ∃ z : Int32, z = v3_2 + (1 : Int32) := ⟨_, rfl⟩
            have h := h y_11 ey_11
            refine lv_iinc (v := y_11) (lv' := [(3, .int y_11), (0, .ref h0), (1, .int x1), (2, .int v2_10)]) hx hb dX3_greatestGains_87 hl (k := 3) rfl (by rw [ey_11]; rfl) (by decide) rfl (fun ls hl => ?_)
            refine lv_goto (tgt := 4) hx hb dX3_greatestGains_90 (by decide) ?_
            exact ih_4 _ _ h _ (lv_sub hl [1, 2, 3, 0] rfl)
          refine lv_if_lt (tgt := 87) hx hb dX3_greatestGains_77 (by decide) (fun c_77 => ?_) (fun c_77 => ?_)
          · have h := br1 h c_77
            exact hJ_87 _ h _ (lv_sub hl [0, 1, 2, 3] rfl)
          · have h := br2 h c_77
            refine lv_iload_n hx hb dX3_greatestGains_80 rfl (lv_at hl 2 rfl) ?_
            refine lv_iconst (v := 1) hx hb dX3_greatestGains_81 (by decide) ?_
            refine lv_iload hx hb dX3_greatestGains_82 (lv_at hl 4 rfl) ?_
            refine lv_ishl hx hb dX3_greatestGains_84 ?_
            refine lv_ior hx hb dX3_greatestGains_85 ?_
            refine lv_topi (fun y_9 ey_9 => ?_)
            have h := h y_9 ey_9
            refine lv_istore_n (lv' := [(2, .int y_9), (0, .ref h0), (1, .int x1), (3, .int v3_2), (4, .int v4_8)]) hx hb dX3_greatestGains_86 rfl hl (by decide) rfl (fun ls hl => ?_)
            exact hJ_87 _ h _ (lv_sub hl [1, 2, 0, 3] rfl)
        obtain ⟨n, h⟩ := h
        have loop_15 : ∀ (n : Nat) (v4_3 : Int32) (v5_4 : Int32), L_X3_greatestGains_15 post K_15 u v2_1 n v4_3 v5_4 → ∀ (ls : Array Slot), lv_has ls 6 [(0, .ref h0), (1, .int x1), (2, .int v2_1), (3, .int v3_2), (4, .int v4_3), (5, .int v5_4)] → W p l e (headSpec wsX3_greatestGains ({ frames := 1, cells := 0, slots := 0, locals := 21 } : Room)).room s m ([.ref h0, .int x1] : List Value).toArray below meth c s.heap [] 0 0 (MQ below (vp_Si post) ([.ref h0, .int x1] : List Value).toArray s 0 0 (fun _ => False)) (F0 m 15 ls []) := by
          intro n
          induction n with
          | zero => intro v4_3 v5_4 h; rw [L_X3_greatestGains_15] at h; exact h.elim
          | succ n ih_15 =>
            intro v4_3 v5_4 h ls hl
            rw [L_X3_greatestGains_15] at h
            refine lv_iload hx hb dX3_greatestGains_15 (lv_at hl 5 rfl) ?_
            refine lv_aload_n hx hb dX3_greatestGains_17 rfl (lv_at hl 0 rfl) ?_
            refine va_get (D := (dC, dI)) (ci := 1) (v := .int (u.1 3)) (C := RX3) (T := TX3) (N := 7) hx hb hts i_X3 hown hK hP 0 rfl rfl 3 (by decide) f_22 (fun _ h9 => h9) rfl dX3_greatestGains_18 ?_
            refine lv_icmp_ge (tgt := 75) hx hb dX3_greatestGains_21 (by decide) (fun c_21 => ?_) (fun c_21 => ?_)
            · have h := br1 h c_21
              exact hK_15 _ h _ (lv_sub hl [0, 1, 2, 3, 4] rfl)
            · have h := br2 h c_21
              refine lv_iload hx hb dX3_greatestGains_24 (lv_at hl 5 rfl) ?_
              refine lv_aload_n hx hb dX3_greatestGains_26 rfl (lv_at hl 0 rfl) ?_
              refine va_get (D := (dC, dI)) (ci := 1) (v := .ref h2) (C := RX3) (T := TX3) (N := 7) hx hb hts i_X3 hown hK hP 0 rfl rfl 1 (by decide) f_15 (fun _ h9 => h9) rfl dX3_greatestGains_27 ?_
              refine va_alen (v := 8) hx hb hK hP 2 0 rfl rfl rfl dX3_greatestGains_30 ?_
              refine lv_icmp_ge (tgt := 75) hx hb dX3_greatestGains_31 (by decide) (fun c_31 => ?_) (fun c_31 => ?_)
              · have h := br1 h c_31
                exact hK_15 _ h _ (lv_sub hl [0, 1, 2, 3, 4] rfl)
              · have h := br2 h c_31
                refine lv_iload_n hx hb dX3_greatestGains_34 rfl (lv_at hl 2 rfl) ?_
                refine lv_iload hx hb dX3_greatestGains_35 (lv_at hl 5 rfl) ?_
                refine vp_callSi (W.runS (As := [.int _, .int _]) (rest := []) ⟨hx, hb, hml, hown, hts⟩ (c_X1_hasBit l h) (va_cwS 2 hts gX3_greatestGains_X1_hasBit rfl rfl rfl (by decide +kernel) ⟨Nat.le_of_ble_eq_true rfl, Nat.le_of_ble_eq_true rfl⟩) ⟨fun _ _ _ _ q => q, fun _ _ _ => ⟨rfl, trivial⟩⟩ rfl rfl hl.1 rfl (lv_room (Nat.le_of_ble_eq_true rfl)) dX3_greatestGains_37 ⟨Nat.zero_le _, Nat.zero_le _⟩) (fun r_5 h => ?_)
                obtain ⟨J_69, hJi_69, h⟩ := jnE1 h
                have hJ_69 : ∀ (v4_6 : Int32), J_69 v4_6 → ∀ (ls : Array Slot), lv_has ls 6 [(0, .ref h0), (1, .int x1), (2, .int v2_1), (3, .int v3_2), (4, .int v4_6), (5, .int v5_4)] → W p l e (headSpec wsX3_greatestGains ({ frames := 1, cells := 0, slots := 0, locals := 21 } : Room)).room s m ([.ref h0, .int x1] : List Value).toArray below meth c s.heap [] 0 0 (MQ below (vp_Si post) ([.ref h0, .int x1] : List Value).toArray s 0 0 (fun _ => False)) (F0 m 69 ls []) := by
                  intro v4_6 h ls hl
                  have h := hJi_69 _ h
                  obtain ⟨y_7, ey_7⟩ : ∃ z : Int32, z = v5_4 + (1 : Int32) := ⟨_, rfl⟩
                  have h := h y_7 ey_7
                  refine lv_iinc (v := y_7) (lv' := [(5, .int y_7), (0, .ref h0), (1, .int x1), (2, .int v2_1), (3, .int v3_2), (4, .int v4_6)]) hx hb dX3_greatestGains_69 hl (k := 5) rfl (by rw [ey_7]; rfl) (by decide) rfl (fun ls hl => ?_)
                  refine lv_goto (tgt := 15) hx hb dX3_greatestGains_72 (by decide) ?_
                  exact ih_15 _ _ h _ (lv_sub hl [1, 2, 3, 4, 5, 0] rfl)
                refine lv_if_ne (tgt := 69) hx hb dX3_greatestGains_40 (by decide) (fun c_40 => ?_) (fun c_40 => ?_)
                · have h := br2 h c_40
                  exact hJ_69 _ h _ (lv_sub hl [0, 1, 2, 3, 4, 5] rfl)
                · have h := br1 h c_40
                  refine lv_iload hx hb dX3_greatestGains_43 (lv_at hl 4 rfl) ?_
                  obtain ⟨J_65, hJi_65, h⟩ := jnE0 h
                  have hJ_65 : J_65 → ∀ (ls : Array Slot), lv_has ls 6 [(0, .ref h0), (1, .int x1), (2, .int v2_1), (3, .int v3_2), (5, .int v5_4)] → W p l e (headSpec wsX3_greatestGains ({ frames := 1, cells := 0, slots := 0, locals := 21 } : Room)).room s m ([.ref h0, .int x1] : List Value).toArray below meth c s.heap [] 0 0 (MQ below (vp_Si post) ([.ref h0, .int x1] : List Value).toArray s 0 0 (fun _ => False)) (F0 m 65 ls []) := by
                    intro  h ls hl
                    have h := hJi_65 h
                    refine lv_iload hx hb dX3_greatestGains_65 (lv_at hl 4 rfl) ?_
                    refine lv_istore (lv' := [(4, .int v5_4), (0, .ref h0), (1, .int x1), (2, .int v2_1), (3, .int v3_2), (5, .int v5_4)]) hx hb dX3_greatestGains_67 hl (by decide) rfl (fun ls hl => ?_)
                    exact hJ_69 _ h _ (lv_sub hl [1, 2, 3, 4, 0, 5] rfl)
                  refine lv_if_lt (tgt := 65) hx hb dX3_greatestGains_45 (by decide) (fun c_45 => ?_) (fun c_45 => ?_)
                  · have h := br1 h c_45
                    exact hJ_65 h _ (lv_sub hl [0, 1, 2, 3, 5] rfl)
                  · have h := br2 h c_45
                    refine lv_aload_n hx hb dX3_greatestGains_48 rfl (lv_at hl 0 rfl) ?_
                    refine va_get (D := (dC, dI)) (ci := 1) (v := .ref h2) (C := RX3) (T := TX3) (N := 7) hx hb hts i_X3 hown hK hP 0 rfl rfl 1 (by decide) f_15 (fun _ h9 => h9) rfl dX3_greatestGains_49 ?_
                    refine lv_iload hx hb dX3_greatestGains_52 (lv_at hl 5 rfl) ?_
                    obtain ⟨hi, h⟩ := h
                    refine va_iald hx hb hK hP 2 0 rfl rfl hi dX3_greatestGains_54 ?_
                    refine lv_aload_n hx hb dX3_greatestGains_55 rfl (lv_at hl 0 rfl) ?_
                    refine va_get (D := (dC, dI)) (ci := 1) (v := .ref h2) (C := RX3) (T := TX3) (N := 7) hx hb hts i_X3 hown hK hP 0 rfl rfl 1 (by decide) f_15 (fun _ h9 => h9) rfl dX3_greatestGains_56 ?_
                    refine lv_iload hx hb dX3_greatestGains_59 (lv_at hl 4 rfl) ?_
                    obtain ⟨hi, h⟩ := h
                    refine va_iald hx hb hK hP 2 0 rfl rfl hi dX3_greatestGains_61 ?_
                    refine lv_icmp_le (tgt := 69) hx hb dX3_greatestGains_62 (by decide) (fun c_62 => ?_) (fun c_62 => ?_)
                    · have h := br1 h c_62
                      exact hJ_69 _ h _ (lv_sub hl [0, 1, 2, 3, 4, 5] rfl)
                    · have h := br2 h c_62
                      exact hJ_65 h _ (lv_sub hl [0, 1, 2, 3, 5] rfl)
        exact loop_15 n _ _ h _ (lv_sub hl [2, 3, 4, 5, 1, 0] rfl)
  exact loop_4 n _ _ h _ (lv_sub hl [2, 3, 1, 0] rfl)
set_option maxHeartbeats 4000000 in
set_option maxRecDepth 100000 in
theorem c_X3_worthAlone (l : Launch) (dC : Nat → ClassId) (dI : Nat → Nat → Nat) (h0 h1 h2 : Nat) (cI : ClassId) {u : St} {x1 : Int32} {post : Int32 → Prop} (h : P_X3_worthAlone u x1 post) : Met l yX3_worthAlone wsX3_worthAlone ({ frames := 4, cells := 0, slots := 0, locals := 92 } : Room) (RPre (dC, dI) vwCl (wS h0 h1 h2 cI u) [(cI, .int)] [.ref h0, .int x1]) (vp_Si post) 0 0 (fun _ => False) := by
  refine Met.ofW (cc := cX3_worthAlone) (maxL := 4) (ret := (some .int)) (by decide) rfl ?_
  intro p e s m args below meth c s₁ B hml hv
  obtain ⟨rfl, hP, hK⟩ := hv
  have hx := B.exec
  have hb := B.bytes
  have hr := B.returns
  have hts := atoms_spec (ws := wsX3_worthAlone) B.pre
  have hown : s.vm.findClass RX3 = some m.cls := findClass_of_methodNamed B.named
  have hlocks := B.notSynchronized
  have hl := lv_entry ([.ref h0, .int x1]) (n := 4) (Nat.le_of_ble_eq_true rfl)
  rw [lg_entry_eq]
  generalize (lg_sl ([.ref h0, .int x1]) ++ List.replicate (4 - (lg_sl ([.ref h0, .int x1])).length) Slot.unset).toArray = ls at hl ⊢
  have hl : lv_has ls 4 [(0, .ref h0), (1, .int x1)] := hl
  have i_X3 : ∀ w ∈ u_ws RX3 TX3 7, w ∈ wsX3_worthAlone := by decide +kernel
  have f_18 := hts (.fieldLink RX3 18 "SliceBody$Solid" "wide" "I") (by decide +kernel)
  unfold P_X3_worthAlone at h
  refine lv_iconst (v := 0) hx hb dX3_worthAlone_0 (by decide) ?_
  refine lv_istore_n (lv' := [(2, .int (0 : Int32)), (0, .ref h0), (1, .int x1)]) hx hb dX3_worthAlone_1 rfl hl (by decide) rfl (fun ls hl => ?_)
  refine lv_iconst (v := 0) hx hb dX3_worthAlone_2 (by decide) ?_
  refine lv_istore_n (lv' := [(3, .int (0 : Int32)), (2, .int (0 : Int32)), (0, .ref h0), (1, .int x1)]) hx hb dX3_worthAlone_3 rfl hl (by decide) rfl (fun ls hl => ?_)
  obtain ⟨K_4, hKi_4, h⟩ := jnE1 h
  have hK_4 : ∀ (v2_9 : Int32), K_4 v2_9 → ∀ (ls : Array Slot), lv_has ls 4 [(2, .int v2_9)] → W p l e (headSpec wsX3_worthAlone ({ frames := 4, cells := 0, slots := 0, locals := 92 } : Room)).room s m ([.ref h0, .int x1] : List Value).toArray below meth c s.heap [] 0 0 (MQ below (vp_Si post) ([.ref h0, .int x1] : List Value).toArray s 0 0 (fun _ => False)) (F0 m 38 ls []) := by
    intro v2_9 h ls hl
    have h := hKi_4 _ h
    refine lv_sipush (v := 128) hx hb dX3_worthAlone_38 (by decide) ?_
    refine lv_iload_n hx hb dX3_worthAlone_41 rfl (lv_at hl 0 rfl) ?_
    refine lv_imul hx hb dX3_worthAlone_42 ?_
    exact W.iret hx hb hr (fun t ht _ => ⟨_, rfl, h, ht⟩) (fun q hq => by cases hq) dX3_worthAlone_43
  obtain ⟨n, h⟩ := h
  have loop_4 : ∀ (n : Nat) (v2_1 : Int32) (v3_2 : Int32), L_X3_worthAlone_4 post K_4 u x1 n v2_1 v3_2 → ∀ (ls : Array Slot), lv_has ls 4 [(0, .ref h0), (1, .int x1), (2, .int v2_1), (3, .int v3_2)] → W p l e (headSpec wsX3_worthAlone ({ frames := 4, cells := 0, slots := 0, locals := 92 } : Room)).room s m ([.ref h0, .int x1] : List Value).toArray below meth c s.heap [] 0 0 (MQ below (vp_Si post) ([.ref h0, .int x1] : List Value).toArray s 0 0 (fun _ => False)) (F0 m 4 ls []) := by
    intro n
    induction n with
    | zero => intro v2_1 v3_2 h; rw [L_X3_worthAlone_4] at h; exact h.elim
    | succ n ih_4 =>
      intro v2_1 v3_2 h ls hl
      rw [L_X3_worthAlone_4] at h
      refine lv_iload_n hx hb dX3_worthAlone_4 rfl (lv_at hl 3 rfl) ?_
      refine lv_aload_n hx hb dX3_worthAlone_5 rfl (lv_at hl 0 rfl) ?_
      refine va_get (D := (dC, dI)) (ci := 1) (v := .int (u.1 2)) (C := RX3) (T := TX3) (N := 7) hx hb hts i_X3 hown hK hP 0 rfl rfl 2 (by decide) f_18 (fun _ h9 => h9) rfl dX3_worthAlone_6 ?_
      refine lv_icmp_ge (tgt := 38) hx hb dX3_worthAlone_9 (by decide) (fun c_9 => ?_) (fun c_9 => ?_)
      · have h := br1 h c_9
        exact hK_4 _ h _ (lv_sub hl [2] rfl)
      · have h := br2 h c_9
        refine lv_iload_n hx hb dX3_worthAlone_12 rfl (lv_at hl 1 rfl) ?_
        refine lv_iload_n hx hb dX3_worthAlone_13 rfl (lv_at hl 3 rfl) ?_
        refine vp_callSi (W.runS (As := [.int _, .int _]) (rest := []) ⟨hx, hb, hml, hown, hts⟩ (c_X1_hasBit l h) (va_cwS 2 hts gX3_worthAlone_X1_hasBit rfl rfl rfl (by decide +kernel) ⟨Nat.le_of_ble_eq_true rfl, Nat.le_of_ble_eq_true rfl⟩) ⟨fun _ _ _ _ q => q, fun _ _ _ => ⟨rfl, trivial⟩⟩ rfl rfl hl.1 rfl (lv_room (Nat.le_of_ble_eq_true rfl)) dX3_worthAlone_14 ⟨Nat.zero_le _, Nat.zero_le _⟩) (fun r_3 h => ?_)
        obtain ⟨J_32, hJi_32, h⟩ := jnE1 h
        have hJ_32 : ∀ (v2_7 : Int32), J_32 v2_7 → ∀ (ls : Array Slot), lv_has ls 4 [(0, .ref h0), (1, .int x1), (2, .int v2_7), (3, .int v3_2)] → W p l e (headSpec wsX3_worthAlone ({ frames := 4, cells := 0, slots := 0, locals := 92 } : Room)).room s m ([.ref h0, .int x1] : List Value).toArray below meth c s.heap [] 0 0 (MQ below (vp_Si post) ([.ref h0, .int x1] : List Value).toArray s 0 0 (fun _ => False)) (F0 m 32 ls []) := by
          intro v2_7 h ls hl
          have h := hJi_32 _ h
          obtain ⟨y_8, ey_8⟩ : ∃ z : Int32, z = v3_2 + (1 : Int32) := ⟨_, rfl⟩
          have h := h y_8 ey_8
          refine lv_iinc (v := y_8) (lv' := [(3, .int y_8), (0, .ref h0), (1, .int x1), (2, .int v2_7)]) hx hb dX3_worthAlone_32 hl (k := 3) rfl (by rw [ey_8]; rfl) (by decide) rfl (fun ls hl => ?_)
          refine lv_goto (tgt := 4) hx hb dX3_worthAlone_35 (by decide) ?_
          exact ih_4 _ _ h _ (lv_sub hl [1, 2, 3, 0] rfl)
        refine lv_if_eq (tgt := 32) hx hb dX3_worthAlone_17 (by decide) (fun c_17 => ?_) (fun c_17 => ?_)
        · have h := br1 h c_17
          exact hJ_32 _ h _ (lv_sub hl [0, 1, 2, 3] rfl)
        · have h := br2 h c_17
          refine lv_iload_n hx hb dX3_worthAlone_20 rfl (lv_at hl 2 rfl) ?_
          refine lv_aload_n hx hb dX3_worthAlone_21 rfl (lv_at hl 0 rfl) ?_
          refine lv_iconst (v := 0) hx hb dX3_worthAlone_22 (by decide) ?_
          refine lv_iload_n hx hb dX3_worthAlone_23 rfl (lv_at hl 3 rfl) ?_
          refine vp_callSl (W.runV (As := [.int _, .int _]) (rest := [.int _]) ⟨hx, hb, hml, hown, hts⟩ (c_X3_figureOf l dC dI h0 h1 h2 cI h) (cwV 2 hts gX3_worthAlone_X3_figureOf rfl rfl rfl (by decide +kernel) ⟨Nat.le_of_ble_eq_true rfl, Nat.le_of_ble_eq_true rfl⟩) ⟨fbR, va_recv hK hP (ci := 1) (q0 := 0) rfl rfl, fun U hU hW => ⟨rfl, by rw [hU]; exact hP, va_K.moved hW.alike hK⟩⟩ rfl rfl hl.1 rfl (lv_room (Nat.le_of_ble_eq_true rfl)) dX3_worthAlone_24 ⟨Nat.zero_le _, Nat.zero_le _⟩) (fun r_4 h => ?_)
          refine vp_callSi (W.runS (As := [.long _]) (rest := [.int _]) ⟨hx, hb, hml, hown, hts⟩ (c_J13_bitCount_95d88 l h) (va_cwS 1 hts gX3_worthAlone_J13_bitCount_95d88 rfl rfl rfl (by decide +kernel) ⟨Nat.le_of_ble_eq_true rfl, Nat.le_of_ble_eq_true rfl⟩) ⟨fun _ _ _ _ q => q, fun _ _ _ => ⟨rfl, trivial⟩⟩ rfl rfl hl.1 rfl (lv_room (Nat.le_of_ble_eq_true rfl)) dX3_worthAlone_27 ⟨Nat.zero_le _, Nat.zero_le _⟩) (fun r_5 h => ?_)
          refine lv_iadd hx hb dX3_worthAlone_30 ?_
          refine lv_topi (fun y_6 ey_6 => ?_)
          have h := h y_6 ey_6
          refine lv_istore_n (lv' := [(2, .int y_6), (0, .ref h0), (1, .int x1), (3, .int v3_2)]) hx hb dX3_worthAlone_31 rfl hl (by decide) rfl (fun ls hl => ?_)
          exact hJ_32 _ h _ (lv_sub hl [1, 2, 0, 3] rfl)
  exact loop_4 n _ _ h _ (lv_sub hl [2, 3, 1, 0] rfl)
set_option maxHeartbeats 4000000 in
set_option maxRecDepth 100000 in
theorem c_X3_sumOfGains (l : Launch) (dC : Nat → ClassId) (dI : Nat → Nat → Nat) (h0 h1 h2 : Nat) (cI : ClassId) {u : St} {x1 : Int32} {post : Int32 → Prop} (h : P_X3_sumOfGains u x1 post) : Met l yX3_sumOfGains wsX3_sumOfGains ({ frames := 1, cells := 0, slots := 0, locals := 21 } : Room) (RPre (dC, dI) vwCl (wS h0 h1 h2 cI u) [(cI, .int)] [.ref h0, .int x1]) (vp_Si post) 0 0 (fun _ => False) := by
  refine Met.ofW (cc := cX3_sumOfGains) (maxL := 4) (ret := (some .int)) (by decide) rfl ?_
  intro p e s m args below meth c s₁ B hml hv
  obtain ⟨rfl, hP, hK⟩ := hv
  have hx := B.exec
  have hb := B.bytes
  have hr := B.returns
  have hts := atoms_spec (ws := wsX3_sumOfGains) B.pre
  have hown : s.vm.findClass RX3 = some m.cls := findClass_of_methodNamed B.named
  have hlocks := B.notSynchronized
  have hl := lv_entry ([.ref h0, .int x1]) (n := 4) (Nat.le_of_ble_eq_true rfl)
  rw [lg_entry_eq]
  generalize (lg_sl ([.ref h0, .int x1]) ++ List.replicate (4 - (lg_sl ([.ref h0, .int x1])).length) Slot.unset).toArray = ls at hl ⊢
  have hl : lv_has ls 4 [(0, .ref h0), (1, .int x1)] := hl
  have i_X3 : ∀ w ∈ u_ws RX3 TX3 7, w ∈ wsX3_sumOfGains := by decide +kernel
  have f_15 := hts (.fieldLink RX3 15 "SliceBody$Solid" "gains" "[I") (by decide +kernel)
  have f_22 := hts (.fieldLink RX3 22 "SliceBody$Solid" "deep" "I") (by decide +kernel)
  unfold P_X3_sumOfGains at h
  refine lv_iconst (v := 0) hx hb dX3_sumOfGains_0 (by decide) ?_
  refine lv_istore_n (lv' := [(2, .int (0 : Int32)), (0, .ref h0), (1, .int x1)]) hx hb dX3_sumOfGains_1 rfl hl (by decide) rfl (fun ls hl => ?_)
  refine lv_iconst (v := 0) hx hb dX3_sumOfGains_2 (by decide) ?_
  refine lv_istore_n (lv' := [(3, .int (0 : Int32)), (2, .int (0 : Int32)), (0, .ref h0), (1, .int x1)]) hx hb dX3_sumOfGains_3 rfl hl (by decide) rfl (fun ls hl => ?_)
  obtain ⟨K_4, hKi_4, h⟩ := jnE1 h
  have hK_4 : ∀ (v2_7 : Int32), K_4 v2_7 → ∀ (ls : Array Slot), lv_has ls 4 [(2, .int v2_7)] → W p l e (headSpec wsX3_sumOfGains ({ frames := 1, cells := 0, slots := 0, locals := 21 } : Room)).room s m ([.ref h0, .int x1] : List Value).toArray below meth c s.heap [] 0 0 (MQ below (vp_Si post) ([.ref h0, .int x1] : List Value).toArray s 0 0 (fun _ => False)) (F0 m 44 ls []) := by
    intro v2_7 h ls hl
    have h := hKi_4 _ h
    refine lv_iload_n hx hb dX3_sumOfGains_44 rfl (lv_at hl 0 rfl) ?_
    exact W.iret hx hb hr (fun t ht _ => ⟨_, rfl, h, ht⟩) (fun q hq => by cases hq) dX3_sumOfGains_45
  obtain ⟨n, h⟩ := h
  have loop_4 : ∀ (n : Nat) (v2_1 : Int32) (v3_2 : Int32), L_X3_sumOfGains_4 post K_4 u x1 n v2_1 v3_2 → ∀ (ls : Array Slot), lv_has ls 4 [(0, .ref h0), (1, .int x1), (2, .int v2_1), (3, .int v3_2)] → W p l e (headSpec wsX3_sumOfGains ({ frames := 1, cells := 0, slots := 0, locals := 21 } : Room)).room s m ([.ref h0, .int x1] : List Value).toArray below meth c s.heap [] 0 0 (MQ below (vp_Si post) ([.ref h0, .int x1] : List Value).toArray s 0 0 (fun _ => False)) (F0 m 4 ls []) := by
    intro n
    induction n with
    | zero => intro v2_1 v3_2 h; rw [L_X3_sumOfGains_4] at h; exact h.elim
    | succ n ih_4 =>
      intro v2_1 v3_2 h ls hl
      rw [L_X3_sumOfGains_4] at h
      refine lv_iload_n hx hb dX3_sumOfGains_4 rfl (lv_at hl 3 rfl) ?_
      refine lv_aload_n hx hb dX3_sumOfGains_5 rfl (lv_at hl 0 rfl) ?_
      refine va_get (D := (dC, dI)) (ci := 1) (v := .int (u.1 3)) (C := RX3) (T := TX3) (N := 7) hx hb hts i_X3 hown hK hP 0 rfl rfl 3 (by decide) f_22 (fun _ h9 => h9) rfl dX3_sumOfGains_6 ?_
      refine lv_icmp_ge (tgt := 44) hx hb dX3_sumOfGains_9 (by decide) (fun c_9 => ?_) (fun c_9 => ?_)
      · have h := br1 h c_9
        exact hK_4 _ h _ (lv_sub hl [2] rfl)
      · have h := br2 h c_9
        refine lv_iload_n hx hb dX3_sumOfGains_12 rfl (lv_at hl 3 rfl) ?_
        refine lv_aload_n hx hb dX3_sumOfGains_13 rfl (lv_at hl 0 rfl) ?_
        refine va_get (D := (dC, dI)) (ci := 1) (v := .ref h2) (C := RX3) (T := TX3) (N := 7) hx hb hts i_X3 hown hK hP 0 rfl rfl 1 (by decide) f_15 (fun _ h9 => h9) rfl dX3_sumOfGains_14 ?_
        refine va_alen (v := 8) hx hb hK hP 2 0 rfl rfl rfl dX3_sumOfGains_17 ?_
        refine lv_icmp_ge (tgt := 44) hx hb dX3_sumOfGains_18 (by decide) (fun c_18 => ?_) (fun c_18 => ?_)
        · have h := br1 h c_18
          exact hK_4 _ h _ (lv_sub hl [2] rfl)
        · have h := br2 h c_18
          refine lv_iload_n hx hb dX3_sumOfGains_21 rfl (lv_at hl 1 rfl) ?_
          refine lv_iload_n hx hb dX3_sumOfGains_22 rfl (lv_at hl 3 rfl) ?_
          refine vp_callSi (W.runS (As := [.int _, .int _]) (rest := []) ⟨hx, hb, hml, hown, hts⟩ (c_X1_hasBit l h) (va_cwS 2 hts gX3_sumOfGains_X1_hasBit rfl rfl rfl (by decide +kernel) ⟨Nat.le_of_ble_eq_true rfl, Nat.le_of_ble_eq_true rfl⟩) ⟨fun _ _ _ _ q => q, fun _ _ _ => ⟨rfl, trivial⟩⟩ rfl rfl hl.1 rfl (lv_room (Nat.le_of_ble_eq_true rfl)) dX3_sumOfGains_23 ⟨Nat.zero_le _, Nat.zero_le _⟩) (fun r_3 h => ?_)
          obtain ⟨J_38, hJi_38, h⟩ := jnE1 h
          have hJ_38 : ∀ (v2_5 : Int32), J_38 v2_5 → ∀ (ls : Array Slot), lv_has ls 4 [(0, .ref h0), (1, .int x1), (2, .int v2_5), (3, .int v3_2)] → W p l e (headSpec wsX3_sumOfGains ({ frames := 1, cells := 0, slots := 0, locals := 21 } : Room)).room s m ([.ref h0, .int x1] : List Value).toArray below meth c s.heap [] 0 0 (MQ below (vp_Si post) ([.ref h0, .int x1] : List Value).toArray s 0 0 (fun _ => False)) (F0 m 38 ls []) := by
            intro v2_5 h ls hl
            have h := hJi_38 _ h
            obtain ⟨y_6, ey_6⟩ : ∃ z : Int32, z = v3_2 + (1 : Int32) := ⟨_, rfl⟩
            have h := h y_6 ey_6
            refine lv_iinc (v := y_6) (lv' := [(3, .int y_6), (0, .ref h0), (1, .int x1), (2, .int v2_5)]) hx hb dX3_sumOfGains_38 hl (k := 3) rfl (by rw [ey_6]; rfl) (by decide) rfl (fun ls hl => ?_)
            refine lv_goto (tgt := 4) hx hb dX3_sumOfGains_41 (by decide) ?_
            exact ih_4 _ _ h _ (lv_sub hl [1, 2, 3, 0] rfl)
          refine lv_if_eq (tgt := 38) hx hb dX3_sumOfGains_26 (by decide) (fun c_26 => ?_) (fun c_26 => ?_)
          · have h := br1 h c_26
            exact hJ_38 _ h _ (lv_sub hl [0, 1, 2, 3] rfl)
          · have h := br2 h c_26
            refine lv_iload_n hx hb dX3_sumOfGains_29 rfl (lv_at hl 2 rfl) ?_
            refine lv_aload_n hx hb dX3_sumOfGains_30 rfl (lv_at hl 0 rfl) ?_
            refine va_get (D := (dC, dI)) (ci := 1) (v := .ref h2) (C := RX3) (T := TX3) (N := 7) hx hb hts i_X3 hown hK hP 0 rfl rfl 1 (by decide) f_15 (fun _ h9 => h9) rfl dX3_sumOfGains_31 ?_
            refine lv_iload_n hx hb dX3_sumOfGains_34 rfl (lv_at hl 3 rfl) ?_
            obtain ⟨hi, h⟩ := h
            refine va_iald hx hb hK hP 2 0 rfl rfl hi dX3_sumOfGains_35 ?_
            refine lv_iadd hx hb dX3_sumOfGains_36 ?_
            refine lv_topi (fun y_4 ey_4 => ?_)
            have h := h y_4 ey_4
            refine lv_istore_n (lv' := [(2, .int y_4), (0, .ref h0), (1, .int x1), (3, .int v3_2)]) hx hb dX3_sumOfGains_37 rfl hl (by decide) rfl (fun ls hl => ?_)
            exact hJ_38 _ h _ (lv_sub hl [1, 2, 0, 3] rfl)
  exact loop_4 n _ _ h _ (lv_sub hl [2, 3, 1, 0] rfl)
set_option maxHeartbeats 4000000 in
set_option maxRecDepth 100000 in
theorem c_X3_chooseBest (l : Launch) (dC : Nat → ClassId) (dI : Nat → Nat → Nat) (h0 h1 h2 : Nat) (cI : ClassId) (sz : Nat) {u : St} {x1 : Int32} {x2 : Int32} {post : St → Prop} (h : P_X3_chooseBest u x1 x2 post) : Met l yX3_chooseBest wsX3_chooseBest ({ frames := 5, cells := 0, slots := 0, locals := 115 } : Room) (MPre (dC, dI) vwCl (wS h0 h1 h2 cI u) [(cI, .int)] sz [.ref h0, .int x1, .int x2]) (va_Qv post (fun (u2 : St) (t : State) => va_P (dC, dI) vwCl (wS h0 h1 h2 cI u2) t.heap) (va_A (wS h0 h1 h2 cI u) sz)) 0 0 (va_A (wS h0 h1 h2 cI u) sz) := by
  refine Met.ofW (cc := cX3_chooseBest) (maxL := 9) (ret := none) (by decide) rfl ?_
  intro p e s m args below meth c s₁ B hml hv
  obtain ⟨rfl, hsz, hP, hK, hD0⟩ := hv
  have hx := B.exec
  have hb := B.bytes
  have hr := B.returns
  have hts := atoms_spec (ws := wsX3_chooseBest) B.pre
  have hown : s.vm.findClass RX3 = some m.cls := findClass_of_methodNamed B.named
  have hlocks := B.notSynchronized
  subst hsz
  have hD1 := hD0.self (sz := s.heap.size)
  generalize hAe : va_A (wS h0 h1 h2 cI u) s.heap.size = A at hD1 ⊢
  have hA : ∀ q : Nat, s.heap.size ≤ q → A q := fun q h => by rw [← hAe]; exact Or.inr h
  have hD : ∀ z, va_D A (wS h0 h1 h2 cI z) := fun z => va_Dsame hD1 rfl
  have hS : va_S A s.heap s.heap [] := va_S.rf
  have hl := lv_entry ([.ref h0, .int x1, .int x2]) (n := 9) (Nat.le_of_ble_eq_true rfl)
  rw [lg_entry_eq]
  generalize (lg_sl ([.ref h0, .int x1, .int x2]) ++ List.replicate (9 - (lg_sl ([.ref h0, .int x1, .int x2])).length) Slot.unset).toArray = ls at hl ⊢
  have hl : lv_has ls 9 [(0, .ref h0), (1, .int x1), (2, .int x2)] := hl
  have i_X3 : ∀ w ∈ u_ws RX3 TX3 7, w ∈ wsX3_chooseBest := by decide +kernel
  have f_18 := hts (.fieldLink RX3 18 "SliceBody$Solid" "wide" "I") (by decide +kernel)
  have f_28 := hts (.fieldLink RX3 28 "SliceBody$Solid" "chosenAtX" "I") (by decide +kernel)
  have f_31 := hts (.fieldLink RX3 31 "SliceBody$Solid" "chosenAtY" "I") (by decide +kernel)
  unfold P_X3_chooseBest at h
  refine lv_iconst (v := 0) hx hb dX3_chooseBest_0 (by decide) ?_
  refine lv_istore_n (lv' := [(3, .int (0 : Int32)), (0, .ref h0), (1, .int x1), (2, .int x2)]) hx hb dX3_chooseBest_1 rfl hl (by decide) rfl (fun ls hl => ?_)
  refine lv_iconst (v := 0) hx hb dX3_chooseBest_2 (by decide) ?_
  refine lv_istore (lv' := [(4, .int (0 : Int32)), (3, .int (0 : Int32)), (0, .ref h0), (1, .int x1), (2, .int x2)]) hx hb dX3_chooseBest_3 hl (by decide) rfl (fun ls hl => ?_)
  refine lv_iconst (v := (-1)) hx hb dX3_chooseBest_5 (by decide) ?_
  refine lv_istore (lv' := [(5, .int (-1 : Int32)), (4, .int (0 : Int32)), (3, .int (0 : Int32)), (0, .ref h0), (1, .int x1), (2, .int x2)]) hx hb dX3_chooseBest_6 hl (by decide) rfl (fun ls hl => ?_)
  refine lv_iconst (v := 0) hx hb dX3_chooseBest_8 (by decide) ?_
  refine lv_istore (lv' := [(6, .int (0 : Int32)), (5, .int (-1 : Int32)), (4, .int (0 : Int32)), (3, .int (0 : Int32)), (0, .ref h0), (1, .int x1), (2, .int x2)]) hx hb dX3_chooseBest_9 hl (by decide) rfl (fun ls hl => ?_)
  obtain ⟨K_11, hKi_11, h⟩ := jnE3 h
  have hK_11 : ∀ (v3_18 : Int32) (v4_19 : Int32) (u_20 : St), K_11 v3_18 v4_19 u_20 → ∀ (H : Heap) (locs : List Loc), va_P (dC, dI) vwCl (wS h0 h1 h2 cI u_20) H → va_S A s.heap H locs → ∀ (ls : Array Slot), lv_has ls 9 [(0, .ref h0), (3, .int v3_18), (4, .int v4_19)] → W p l e (headSpec wsX3_chooseBest ({ frames := 5, cells := 0, slots := 0, locals := 115 } : Room)).room s m ([.ref h0, .int x1, .int x2] : List Value).toArray below meth c H locs 0 0 (MQ below (va_Qv post (fun (u2 : St) (t : State) => va_P (dC, dI) vwCl (wS h0 h1 h2 cI u2) t.heap) A) ([.ref h0, .int x1, .int x2] : List Value).toArray s 0 0 A) (F0 m 83 ls []) := by
    intro v3_18 v4_19 u_20 h H locs hP hS ls hl
    have h := hKi_11 _ _ _ h
    refine lv_aload_n hx hb dX3_chooseBest_83 rfl (lv_at hl 0 rfl) ?_
    refine lv_iload_n hx hb dX3_chooseBest_84 rfl (lv_at hl 1 rfl) ?_
    refine va_put (D := (dC, dI)) (ci := 1) (v := .int v3_18) (ty := .int) (C := RX3) (T := TX3) (N := 7) hx hb hts i_X3 tyX3 tyX3_ok nmX3 hown hK hP (hD _) hS 0 rfl rfl 5 (by decide) f_28 (fun _ h9 => h9) rfl (by decide +kernel) rfl rfl (Nat.le_of_ble_eq_true rfl) dX3_chooseBest_85 (fun H locs hP _ hS => ?_)
    obtain ⟨u_21, eu_21⟩ : ∃ z : St, z = (upd u_20.1 5 v3_18, u_20.2) := ⟨_, rfl⟩
    have h := h u_21 eu_21
    have hP : va_P (dC, dI) vwCl (wS h0 h1 h2 cI u_21) H := by rw [eu_21]; exact hP
    refine lv_aload_n hx hb dX3_chooseBest_88 rfl (lv_at hl 0 rfl) ?_
    refine lv_iload hx hb dX3_chooseBest_89 (lv_at hl 2 rfl) ?_
    refine va_put (D := (dC, dI)) (ci := 1) (v := .int v4_19) (ty := .int) (C := RX3) (T := TX3) (N := 7) hx hb hts i_X3 tyX3 tyX3_ok nmX3 hown hK hP (hD _) hS 0 rfl rfl 6 (by decide) f_31 (fun _ h9 => h9) rfl (by decide +kernel) rfl rfl (Nat.le_of_ble_eq_true rfl) dX3_chooseBest_91 (fun H locs hP _ hS => ?_)
    obtain ⟨u_22, eu_22⟩ : ∃ z : St, z = (upd u_21.1 6 v4_19, u_21.2) := ⟨_, rfl⟩
    have h := h u_22 eu_22
    have hP : va_P (dC, dI) vwCl (wS h0 h1 h2 cI u_22) H := by rw [eu_22]; exact hP
    exact W.vret hx hb hr (fun t ht _ => ⟨⟨u_22, rfl, h, hPr ht hP⟩, hS.F ht⟩) hS.2.2 dX3_chooseBest_94
  obtain ⟨n, h⟩ := h
  have loop_11 : ∀ (n : Nat) (v3_1 : Int32) (v4_2 : Int32) (v5_3 : Int32) (v6_4 : Int32) (u_5 : St), L_X3_chooseBest_11 post K_11 x1 x2 n v3_1 v4_2 v5_3 v6_4 u_5 → ∀ (H : Heap) (locs : List Loc), va_P (dC, dI) vwCl (wS h0 h1 h2 cI u_5) H → va_S A s.heap H locs → ∀ (ls : Array Slot), lv_has ls 9 [(0, .ref h0), (1, .int x1), (2, .int x2), (3, .int v3_1), (4, .int v4_2), (5, .int v5_3), (6, .int v6_4)] → W p l e (headSpec wsX3_chooseBest ({ frames := 5, cells := 0, slots := 0, locals := 115 } : Room)).room s m ([.ref h0, .int x1, .int x2] : List Value).toArray below meth c H locs 0 0 (MQ below (va_Qv post (fun (u2 : St) (t : State) => va_P (dC, dI) vwCl (wS h0 h1 h2 cI u2) t.heap) A) ([.ref h0, .int x1, .int x2] : List Value).toArray s 0 0 A) (F0 m 11 ls []) := by
    intro n
    induction n with
    | zero => intro v3_1 v4_2 v5_3 v6_4 u_5 h; rw [L_X3_chooseBest_11] at h; exact h.elim
    | succ n ih_11 =>
      intro v3_1 v4_2 v5_3 v6_4 u_5 h H locs hP hS ls hl
      rw [L_X3_chooseBest_11] at h
      refine lv_iload hx hb dX3_chooseBest_11 (lv_at hl 6 rfl) ?_
      refine lv_iconst (v := 1) hx hb dX3_chooseBest_13 (by decide) ?_
      refine lv_aload_n hx hb dX3_chooseBest_14 rfl (lv_at hl 0 rfl) ?_
      refine va_get (D := (dC, dI)) (ci := 1) (v := .int (u_5.1 2)) (C := RX3) (T := TX3) (N := 7) hx hb hts i_X3 hown hK hP 0 rfl rfl 2 (by decide) f_18 (fun _ h9 => h9) rfl dX3_chooseBest_15 ?_
      refine lv_ishl hx hb dX3_chooseBest_18 ?_
      refine lv_icmp_ge (tgt := 83) hx hb dX3_chooseBest_19 (by decide) (fun c_19 => ?_) (fun c_19 => ?_)
      · have h := br1 h c_19
        exact hK_11 _ _ _ h _ _ hP hS _ (lv_sub hl [0, 3, 4] rfl)
      · have h := br2 h c_19
        refine lv_iload hx hb dX3_chooseBest_22 (lv_at hl 6 rfl) ?_
        refine vp_callSi (W.runS (As := [.int _]) (rest := []) ⟨hx, hb, hml, hown, hts⟩ (c_J6_bitCount_0f7a4 l h) (va_cwS 1 hts gX3_chooseBest_J6_bitCount_0f7a4 rfl rfl rfl (by decide +kernel) ⟨Nat.le_of_ble_eq_true rfl, Nat.le_of_ble_eq_true rfl⟩) ⟨fun _ _ _ _ q => q, fun _ _ _ => ⟨rfl, trivial⟩⟩ rfl rfl hl.1 rfl (lv_room (Nat.le_of_ble_eq_true rfl)) dX3_chooseBest_24 ⟨Nat.zero_le _, Nat.zero_le _⟩) (fun r_6 h => ?_)
        refine lv_iload_n hx hb dX3_chooseBest_27 rfl (lv_at hl 1 rfl) ?_
        obtain ⟨J_77, hJi_77, h⟩ := jnE4 h
        have hJ_77 : ∀ (v3_13 : Int32) (v4_14 : Int32) (v5_15 : Int32) (u_16 : St), J_77 v3_13 v4_14 v5_15 u_16 → ∀ (H : Heap) (locs : List Loc), va_P (dC, dI) vwCl (wS h0 h1 h2 cI u_16) H → va_S A s.heap H locs → ∀ (ls : Array Slot), lv_has ls 9 [(0, .ref h0), (1, .int x1), (2, .int x2), (3, .int v3_13), (4, .int v4_14), (5, .int v5_15), (6, .int v6_4)] → W p l e (headSpec wsX3_chooseBest ({ frames := 5, cells := 0, slots := 0, locals := 115 } : Room)).room s m ([.ref h0, .int x1, .int x2] : List Value).toArray below meth c H locs 0 0 (MQ below (va_Qv post (fun (u2 : St) (t : State) => va_P (dC, dI) vwCl (wS h0 h1 h2 cI u2) t.heap) A) ([.ref h0, .int x1, .int x2] : List Value).toArray s 0 0 A) (F0 m 77 ls []) := by
          intro v3_13 v4_14 v5_15 u_16 h H locs hP hS ls hl
          have h := hJi_77 _ _ _ _ h
          obtain ⟨y_17, ey_17⟩ : ∃ z : Int32, z = v6_4 + (1 : Int32) := ⟨_, rfl⟩
          have h := h y_17 ey_17
          refine lv_iinc (v := y_17) (lv' := [(6, .int y_17), (0, .ref h0), (1, .int x1), (2, .int x2), (3, .int v3_13), (4, .int v4_14), (5, .int v5_15)]) hx hb dX3_chooseBest_77 hl (k := 6) rfl (by rw [ey_17]; rfl) (by decide) rfl (fun ls hl => ?_)
          refine lv_goto (tgt := 11) hx hb dX3_chooseBest_80 (by decide) ?_
          exact ih_11 _ _ _ _ _ h _ _ hP hS _ (lv_sub hl [1, 2, 3, 4, 5, 6, 0] rfl)
        refine lv_icmp_ne (tgt := 77) hx hb dX3_chooseBest_28 (by decide) (fun c_28 => ?_) (fun c_28 => ?_)
        · have h := br2 h c_28
          exact hJ_77 _ _ _ _ h _ _ hP hS _ (lv_sub hl [0, 1, 2, 3, 4, 5, 6] rfl)
        · have h := br1 h c_28
          refine lv_aload_n hx hb dX3_chooseBest_31 rfl (lv_at hl 0 rfl) ?_
          refine lv_iload hx hb dX3_chooseBest_32 (lv_at hl 6 rfl) ?_
          have hFc := fr_all (ws := wS h0 h1 h2 cI u_5) (hD u_5) hS hA
          refine va_callv (va_runV (As := [.int _]) (rest := []) ⟨hx, hb, hml, hown, hts⟩ (c_X3_reckonGains l dC dI h0 h1 h2 cI (H).size h) (cwV 1 hts gX3_chooseBest_X3_reckonGains rfl rfl rfl (by decide +kernel) ⟨Nat.le_of_ble_eq_true rfl, Nat.le_of_ble_eq_true rfl⟩) ⟨fbM, va_recv hK hP (ci := 1) (q0 := 0) rfl rfl, fun U hU hW => ⟨rfl, by rw [hU], by rw [hU]; exact hP, va_K.moved hW.alike hK, (hD u_5).weaken (fun _ _ _ _ => trivial)⟩⟩ rfl rfl hl.1 rfl (lv_room (Nat.le_of_ble_eq_true rfl)) dX3_chooseBest_34 ⟨Nat.zero_le _, Nat.zero_le _⟩) hS (fun q _ h => hFc q h) hFc (fun u_8 t H locs ht _ h hP1 _ hk1 hS => ?_)
          have hP : va_P (dC, dI) vwCl (wS h0 h1 h2 cI u_8) H := by rw [← ht]; exact hP1
          refine lv_aload_n hx hb dX3_chooseBest_37 rfl (lv_at hl 0 rfl) ?_
          refine lv_iload_n hx hb dX3_chooseBest_38 rfl (lv_at hl 2 rfl) ?_
          refine vp_callSi (W.runV (As := [.int _]) (rest := []) ⟨hx, hb, hml, hown, hts⟩ (c_X3_greatestGains l dC dI h0 h1 h2 cI h) (cwV 1 hts gX3_chooseBest_X3_greatestGains rfl rfl rfl (by decide +kernel) ⟨Nat.le_of_ble_eq_true rfl, Nat.le_of_ble_eq_true rfl⟩) ⟨fbR, va_recv hK hP (ci := 1) (q0 := 0) rfl rfl, fun U hU hW => ⟨rfl, by rw [hU]; exact hP, va_K.moved hW.alike hK⟩⟩ rfl rfl hl.1 rfl (lv_room (Nat.le_of_ble_eq_true rfl)) dX3_chooseBest_39 ⟨Nat.zero_le _, Nat.zero_le _⟩) (fun r_9 h => ?_)
          refine lv_istore (lv' := [(7, .int r_9), (0, .ref h0), (1, .int x1), (2, .int x2), (3, .int v3_1), (4, .int v4_2), (5, .int v5_3), (6, .int v6_4)]) hx hb dX3_chooseBest_42 hl (by decide) rfl (fun ls hl => ?_)
          refine lv_aload_n hx hb dX3_chooseBest_44 rfl (lv_at hl 1 rfl) ?_
          refine lv_iload hx hb dX3_chooseBest_45 (lv_at hl 7 rfl) ?_
          refine vp_callSi (W.runV (As := [.int _]) (rest := []) ⟨hx, hb, hml, hown, hts⟩ (c_X3_worthAlone l dC dI h0 h1 h2 cI h) (cwV 1 hts gX3_chooseBest_X3_worthAlone rfl rfl rfl (by decide +kernel) ⟨Nat.le_of_ble_eq_true rfl, Nat.le_of_ble_eq_true rfl⟩) ⟨fbR, va_recv hK hP (ci := 1) (q0 := 0) rfl rfl, fun U hU hW => ⟨rfl, by rw [hU]; exact hP, va_K.moved hW.alike hK⟩⟩ rfl rfl hl.1 rfl (lv_room (Nat.le_of_ble_eq_true rfl)) dX3_chooseBest_47 ⟨Nat.zero_le _, Nat.zero_le _⟩) (fun r_10 h => ?_)
          refine lv_aload_n hx hb dX3_chooseBest_50 rfl (lv_at hl 1 rfl) ?_
          refine lv_iload hx hb dX3_chooseBest_51 (lv_at hl 0 rfl) ?_
          refine vp_callSi (W.runV (As := [.int _]) (rest := [.int _]) ⟨hx, hb, hml, hown, hts⟩ (c_X3_sumOfGains l dC dI h0 h1 h2 cI h) (cwV 1 hts gX3_chooseBest_X3_sumOfGains rfl rfl rfl (by decide +kernel) ⟨Nat.le_of_ble_eq_true rfl, Nat.le_of_ble_eq_true rfl⟩) ⟨fbR, va_recv hK hP (ci := 1) (q0 := 0) rfl rfl, fun U hU hW => ⟨rfl, by rw [hU]; exact hP, va_K.moved hW.alike hK⟩⟩ rfl rfl hl.1 rfl (lv_room (Nat.le_of_ble_eq_true rfl)) dX3_chooseBest_53 ⟨Nat.zero_le _, Nat.zero_le _⟩) (fun r_11 h => ?_)
          refine lv_iadd hx hb dX3_chooseBest_56 ?_
          refine lv_topi (fun y_12 ey_12 => ?_)
          have h := h y_12 ey_12
          refine lv_istore (lv' := [(8, .int y_12), (7, .int r_9), (0, .ref h0), (1, .int x1), (2, .int x2), (3, .int v3_1), (4, .int v4_2), (5, .int v5_3), (6, .int v6_4)]) hx hb dX3_chooseBest_57 hl (by decide) rfl (fun ls hl => ?_)
          refine lv_iload hx hb dX3_chooseBest_59 (lv_at hl 0 rfl) ?_
          refine lv_iload hx hb dX3_chooseBest_61 (lv_at hl 7 rfl) ?_
          refine lv_icmp_le (tgt := 77) hx hb dX3_chooseBest_63 (by decide) (fun c_63 => ?_) (fun c_63 => ?_)
          · have h := br1 h c_63
            exact hJ_77 _ _ _ _ h _ _ hP hS _ (lv_sub hl [2, 3, 4, 5, 6, 7, 8] rfl)
          · have h := br2 h c_63
            refine lv_iload hx hb dX3_chooseBest_66 (lv_at hl 0 rfl) ?_
            refine lv_istore (lv' := [(5, .int y_12), (8, .int y_12), (7, .int r_9), (0, .ref h0), (1, .int x1), (2, .int x2), (3, .int v3_1), (4, .int v4_2), (6, .int v6_4)]) hx hb dX3_chooseBest_68 hl (by decide) rfl (fun ls hl => ?_)
            refine lv_iload hx hb dX3_chooseBest_70 (lv_at hl 8 rfl) ?_
            refine lv_istore_n (lv' := [(3, .int v6_4), (5, .int y_12), (8, .int y_12), (7, .int r_9), (0, .ref h0), (1, .int x1), (2, .int x2), (4, .int v4_2), (6, .int v6_4)]) hx hb dX3_chooseBest_72 rfl hl (by decide) rfl (fun ls hl => ?_)
            refine lv_iload hx hb dX3_chooseBest_73 (lv_at hl 3 rfl) ?_
            refine lv_istore (lv' := [(4, .int r_9), (3, .int v6_4), (5, .int y_12), (8, .int y_12), (7, .int r_9), (0, .ref h0), (1, .int x1), (2, .int x2), (6, .int v6_4)]) hx hb dX3_chooseBest_75 hl (by decide) rfl (fun ls hl => ?_)
            exact hJ_77 _ _ _ _ h _ _ hP hS _ (lv_sub hl [5, 6, 7, 1, 0, 2, 8] rfl)
  exact loop_11 n _ _ _ _ _ h _ _ hP hS _ (lv_sub hl [4, 5, 6, 3, 2, 1, 0] rfl)
