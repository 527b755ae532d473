set_option maxHeartbeats 4000000 in
set_option maxRecDepth 100000 in
theorem c_X0_forget (l : Launch) (dC : Nat → ClassId) (dI : Nat → Nat → Nat) (g0 g1 : Nat) (cI : ClassId) (sz : Nat) {u : St} {post : St → Prop} (h : P_X0_forget u post) : Met l yX0_forget wsX0_forget ({ frames := 0, cells := 0, slots := 0, locals := 0 } : Room) (MPre (dC, dI) vwCl (wB g0 g1 cI u) [(cI, .int)] sz [.ref g0]) (va_Qv post (fun (u2 : St) (t : State) => va_P (dC, dI) vwCl (wB g0 g1 cI u2) t.heap) (va_A (wB g0 g1 cI u) sz)) 0 0 (va_A (wB g0 g1 cI u) sz) := by
  refine Met.ofW (cc := cX0_forget) (maxL := 1) (ret := none) (by decide) rfl ?_
  intro p e s m args below meth c s₁ B hml hv
  obtain ⟨rfl, hsz, hP, hK, hD0⟩ := hv
  have hx := B.exec
  have hb := B.bytes
  have hr := B.returns
  have hts := atoms_spec (ws := wsX0_forget) B.pre
  have hown : s.vm.findClass RX0 = some m.cls := findClass_of_methodNamed B.named
  have hlocks := B.notSynchronized
  subst hsz
  have hD1 := hD0.self (sz := s.heap.size)
  generalize hAe : va_A (wB g0 g1 cI u) s.heap.size = A at hD1 ⊢
  have hA : ∀ q : Nat, s.heap.size ≤ q → A q := fun q h => by rw [← hAe]; exact Or.inr h
  have hD : ∀ z, va_D A (wB g0 g1 cI z) := fun z => va_Dsame hD1 rfl
  have hS : va_S A s.heap s.heap [] := va_S.rf
  have hl := lv_entry ([.ref g0]) (n := 1) (Nat.le_of_ble_eq_true rfl)
  rw [lg_entry_eq]
  generalize (lg_sl ([.ref g0]) ++ List.replicate (1 - (lg_sl ([.ref g0])).length) Slot.unset).toArray = ls at hl ⊢
  have hl : lv_has ls 1 [(0, .ref g0)] := hl
  have i_X0 : ∀ w ∈ u_ws RX0 TX0 5, w ∈ wsX0_forget := by decide +kernel
  have f_15 := hts (.fieldLink RX0 15 "SliceBody$Boards" "known" "Z") (by decide +kernel)
  unfold P_X0_forget at h
  refine lv_aload_n hx hb dX0_forget_0 rfl (lv_at hl 0 rfl) ?_
  refine lv_iconst (v := 0) hx hb dX0_forget_1 (by decide) ?_
  refine va_put (D := (dC, dI)) (ci := 0) (v := .int (0 : Int32)) (ty := .boolean) (C := RX0) (T := TX0) (N := 5) hx hb hts i_X0 tyX0 tyX0_ok nmX0 hown hK hP (hD _) hS 0 rfl rfl 1 (by decide) f_15 (fun _ h9 => h9) rfl (by decide +kernel) rfl rfl (Nat.le_of_ble_eq_true rfl) dX0_forget_2 (fun H locs hP _ hS => ?_)
  obtain ⟨u_1, eu_1⟩ : ∃ z : St, z = (upd u.1 1 (0 : Int32), u.2) := ⟨_, rfl⟩
  have h := h u_1 eu_1
  have hP : va_P (dC, dI) vwCl (wB g0 g1 cI u_1) H := by rw [eu_1]; exact hP
  exact W.vret hx hb hr (fun t ht _ => ⟨⟨u_1, rfl, h, hPr ht hP⟩, hS.F ht⟩) hS.2.2 dX0_forget_5
set_option maxHeartbeats 4000000 in
set_option maxRecDepth 100000 in
theorem c_X0_clear (l : Launch) (dC : Nat → ClassId) (dI : Nat → Nat → Nat) (g0 g1 : Nat) (cI : ClassId) (sz : Nat) {u : St} {post : St → Prop} (h : P_X0_clear u post) : Met l yX0_clear wsX0_clear ({ frames := 0, cells := 0, slots := 0, locals := 0 } : Room) (MPre (dC, dI) vwCl (wB g0 g1 cI u) [(cI, .int)] sz [.ref g0]) (va_Qv post (fun (u2 : St) (t : State) => va_P (dC, dI) vwCl (wB g0 g1 cI u2) t.heap) (va_A (wB g0 g1 cI u) sz)) 0 0 (va_A (wB g0 g1 cI u) sz) := by
  refine Met.ofW (cc := cX0_clear) (maxL := 1) (ret := none) (by decide) rfl ?_
  intro p e s m args below meth c s₁ B hml hv
  obtain ⟨rfl, hsz, hP, hK, hD0⟩ := hv
  have hx := B.exec
  have hb := B.bytes
  have hr := B.returns
  have hts := atoms_spec (ws := wsX0_clear) B.pre
  have hown : s.vm.findClass RX0 = some m.cls := findClass_of_methodNamed B.named
  have hlocks := B.notSynchronized
  subst hsz
  have hD1 := hD0.self (sz := s.heap.size)
  generalize hAe : va_A (wB g0 g1 cI u) s.heap.size = A at hD1 ⊢
  have hA : ∀ q : Nat, s.heap.size ≤ q → A q := fun q h => by rw [← hAe]; exact Or.inr h
  have hD : ∀ z, va_D A (wB g0 g1 cI z) := fun z => va_Dsame hD1 rfl
  have hS : va_S A s.heap s.heap [] := va_S.rf
  have hl := lv_entry ([.ref g0]) (n := 1) (Nat.le_of_ble_eq_true rfl)
  rw [lg_entry_eq]
  generalize (lg_sl ([.ref g0]) ++ List.replicate (1 - (lg_sl ([.ref g0])).length) Slot.unset).toArray = ls at hl ⊢
  have hl : lv_has ls 1 [(0, .ref g0)] := hl
  have i_X0 : ∀ w ∈ u_ws RX0 TX0 5, w ∈ wsX0_clear := by decide +kernel
  have f_19 := hts (.fieldLink RX0 19 "SliceBody$Boards" "count" "I") (by decide +kernel)
  unfold P_X0_clear at h
  refine lv_aload_n hx hb dX0_clear_0 rfl (lv_at hl 0 rfl) ?_
  refine lv_iconst (v := 0) hx hb dX0_clear_1 (by decide) ?_
  refine va_put (D := (dC, dI)) (ci := 0) (v := .int (0 : Int32)) (ty := .int) (C := RX0) (T := TX0) (N := 5) hx hb hts i_X0 tyX0 tyX0_ok nmX0 hown hK hP (hD _) hS 0 rfl rfl 2 (by decide) f_19 (fun _ h9 => h9) rfl (by decide +kernel) rfl rfl (Nat.le_of_ble_eq_true rfl) dX0_clear_2 (fun H locs hP _ hS => ?_)
  obtain ⟨u_1, eu_1⟩ : ∃ z : St, z = (upd u.1 2 (0 : Int32), u.2) := ⟨_, rfl⟩
  have h := h u_1 eu_1
  have hP : va_P (dC, dI) vwCl (wB g0 g1 cI u_1) H := by rw [eu_1]; exact hP
  exact W.vret hx hb hr (fun t ht _ => ⟨⟨u_1, rfl, h, hPr ht hP⟩, hS.F ht⟩) hS.2.2 dX0_clear_5
set_option maxHeartbeats 4000000 in
set_option maxRecDepth 100000 in
theorem c_X0_fact (l : Launch) (dC : Nat → ClassId) (dI : Nat → Nat → Nat) (g0 g1 : Nat) (cI : ClassId) {u : St} {x1 : Int32} {x2 : Int32} {post : Int32 → Prop} (h : P_X0_fact u x1 x2 post) : Met l yX0_fact wsX0_fact ({ frames := 1, cells := 0, slots := 0, locals := 21 } : Room) (RPre (dC, dI) vwCl (wB g0 g1 cI u) [(cI, .int)] [.ref g0, .int x1, .int x2]) (vp_Si post) 0 0 (fun _ => False) := by
  refine Met.ofW (cc := cX0_fact) (maxL := 3) (ret := (some .int)) (by decide) rfl ?_
  intro p e s m args below meth c s₁ B hml hv
  obtain ⟨rfl, hP, hK⟩ := hv
  have hx := B.exec
  have hb := B.bytes
  have hr := B.returns
  have hts := atoms_spec (ws := wsX0_fact) B.pre
  have hown : s.vm.findClass RX0 = some m.cls := findClass_of_methodNamed B.named
  have hlocks := B.notSynchronized
  have hl := lv_entry ([.ref g0, .int x1, .int x2]) (n := 3) (Nat.le_of_ble_eq_true rfl)
  rw [lg_entry_eq]
  generalize (lg_sl ([.ref g0, .int x1, .int x2]) ++ List.replicate (3 - (lg_sl ([.ref g0, .int x1, .int x2])).length) Slot.unset).toArray = ls at hl ⊢
  have hl : lv_has ls 3 [(0, .ref g0), (1, .int x1), (2, .int x2)] := hl
  have i_X0 : ∀ w ∈ u_ws RX0 TX0 5, w ∈ wsX0_fact := by decide +kernel
  have f_11 := hts (.fieldLink RX0 11 "SliceBody$Boards" "facts" "[I") (by decide +kernel)
  unfold P_X0_fact at h
  refine lv_iload_n hx hb dX0_fact_0 rfl (lv_at hl 1 rfl) ?_
  refine lv_iload_n hx hb dX0_fact_1 rfl (lv_at hl 2 rfl) ?_
  refine vp_callSi (W.runS (As := [.int _, .int _]) (rest := []) ⟨hx, hb, hml, hown, hts⟩ (c_X0_hasFact l h) (va_cwS 2 hts gX0_fact_X0_hasFact rfl rfl rfl (by decide +kernel) ⟨Nat.le_of_ble_eq_true rfl, Nat.le_of_ble_eq_true rfl⟩) ⟨fun _ _ _ _ q => q, fun _ _ _ => ⟨rfl, trivial⟩⟩ rfl rfl hl.1 rfl (lv_room (Nat.le_of_ble_eq_true rfl)) dX0_fact_2 ⟨Nat.zero_le _, Nat.zero_le _⟩) (fun r_1 h => ?_)
  refine lv_if_eq (tgt := 22) hx hb dX0_fact_5 (by decide) (fun c_5 => ?_) (fun c_5 => ?_)
  · have h := br1 h c_5
    refine lv_bipush (v := (-6)) hx hb dX0_fact_22 (by decide) ?_
    exact W.iret hx hb hr (fun t ht _ => ⟨_, rfl, h, ht⟩) (fun q hq => by cases hq) dX0_fact_24
  · have h := br2 h c_5
    refine lv_aload_n hx hb dX0_fact_8 rfl (lv_at hl 0 rfl) ?_
    refine va_get (D := (dC, dI)) (ci := 0) (v := .ref g1) (C := RX0) (T := TX0) (N := 5) hx hb hts i_X0 hown hK hP 0 rfl rfl 0 (by decide) f_11 (fun _ h9 => h9) rfl dX0_fact_9 ?_
    refine lv_iload_n hx hb dX0_fact_12 rfl (lv_at hl 1 rfl) ?_
    refine lv_bipush (v := 7) hx hb dX0_fact_13 (by decide) ?_
    refine lv_imul hx hb dX0_fact_15 ?_
    refine lv_iload_n hx hb dX0_fact_16 rfl (lv_at hl 2 rfl) ?_
    refine lv_iadd hx hb dX0_fact_17 ?_
    obtain ⟨hi, h⟩ := h
    refine va_iald hx hb hK hP 1 0 rfl rfl hi dX0_fact_18 ?_
    refine lv_goto (tgt := 24) hx hb dX0_fact_19 (by decide) ?_
    exact W.iret hx hb hr (fun t ht _ => ⟨_, rfl, h, ht⟩) (fun q hq => by cases hq) dX0_fact_24
set_option maxHeartbeats 4000000 in
set_option maxRecDepth 100000 in
theorem c_X0_note (l : Launch) (dC : Nat → ClassId) (dI : Nat → Nat → Nat) (g0 g1 : Nat) (cI : ClassId) (sz : Nat) {u : St} {x1 : Int32} {x2 : Int32} {x3 : Int32} {post : St → Prop} (h : P_X0_note u x1 x2 x3 post) : Met l yX0_note wsX0_note ({ frames := 1, cells := 0, slots := 0, locals := 21 } : Room) (MPre (dC, dI) vwCl (wB g0 g1 cI u) [(cI, .int)] sz [.ref g0, .int x1, .int x2, .int x3]) (va_Qv post (fun (u2 : St) (t : State) => va_P (dC, dI) vwCl (wB g0 g1 cI u2) t.heap) (va_A (wB g0 g1 cI u) sz)) 0 0 (va_A (wB g0 g1 cI u) sz) := by
  refine Met.ofW (cc := cX0_note) (maxL := 4) (ret := none) (by decide) rfl ?_
  intro p e s m args below meth c s₁ B hml hv
  obtain ⟨rfl, hsz, hP, hK, hD0⟩ := hv
  have hx := B.exec
  have hb := B.bytes
  have hr := B.returns
  have hts := atoms_spec (ws := wsX0_note) B.pre
  have hown : s.vm.findClass RX0 = some m.cls := findClass_of_methodNamed B.named
  have hlocks := B.notSynchronized
  subst hsz
  have hD1 := hD0.self (sz := s.heap.size)
  generalize hAe : va_A (wB g0 g1 cI u) s.heap.size = A at hD1 ⊢
  have hA : ∀ q : Nat, s.heap.size ≤ q → A q := fun q h => by rw [← hAe]; exact Or.inr h
  have hD : ∀ z, va_D A (wB g0 g1 cI z) := fun z => va_Dsame hD1 rfl
  have hS : va_S A s.heap s.heap [] := va_S.rf
  have hl := lv_entry ([.ref g0, .int x1, .int x2, .int x3]) (n := 4) (Nat.le_of_ble_eq_true rfl)
  rw [lg_entry_eq]
  generalize (lg_sl ([.ref g0, .int x1, .int x2, .int x3]) ++ List.replicate (4 - (lg_sl ([.ref g0, .int x1, .int x2, .int x3])).length) Slot.unset).toArray = ls at hl ⊢
  have hl : lv_has ls 4 [(0, .ref g0), (1, .int x1), (2, .int x2), (3, .int x3)] := hl
  have i_X0 : ∀ w ∈ u_ws RX0 TX0 5, w ∈ wsX0_note := by decide +kernel
  have f_11 := hts (.fieldLink RX0 11 "SliceBody$Boards" "facts" "[I") (by decide +kernel)
  unfold P_X0_note at h
  refine lv_iload_n hx hb dX0_note_0 rfl (lv_at hl 1 rfl) ?_
  refine lv_iload_n hx hb dX0_note_1 rfl (lv_at hl 2 rfl) ?_
  refine vp_callSi (W.runS (As := [.int _, .int _]) (rest := []) ⟨hx, hb, hml, hown, hts⟩ (c_X0_hasFact l h) (va_cwS 2 hts gX0_note_X0_hasFact rfl rfl rfl (by decide +kernel) ⟨Nat.le_of_ble_eq_true rfl, Nat.le_of_ble_eq_true rfl⟩) ⟨fun _ _ _ _ q => q, fun _ _ _ => ⟨rfl, trivial⟩⟩ rfl rfl hl.1 rfl (lv_room (Nat.le_of_ble_eq_true rfl)) dX0_note_2 ⟨Nat.zero_le _, Nat.zero_le _⟩) (fun r_1 h => ?_)
  refine lv_if_eq (tgt := 20) hx hb dX0_note_5 (by decide) (fun c_5 => ?_) (fun c_5 => ?_)
  · have h := br1 h c_5
    exact W.vret hx hb hr (fun t ht _ => ⟨⟨u, rfl, h, hPr ht hP⟩, hS.F ht⟩) hS.2.2 dX0_note_20
  · have h := br2 h c_5
    refine lv_aload_n hx hb dX0_note_8 rfl (lv_at hl 0 rfl) ?_
    refine va_get (D := (dC, dI)) (ci := 0) (v := .ref g1) (C := RX0) (T := TX0) (N := 5) hx hb hts i_X0 hown hK hP 0 rfl rfl 0 (by decide) f_11 (fun _ h9 => h9) rfl dX0_note_9 ?_
    refine lv_iload_n hx hb dX0_note_12 rfl (lv_at hl 1 rfl) ?_
    refine lv_bipush (v := 7) hx hb dX0_note_13 (by decide) ?_
    refine lv_imul hx hb dX0_note_15 ?_
    refine lv_iload_n hx hb dX0_note_16 rfl (lv_at hl 2 rfl) ?_
    refine lv_iadd hx hb dX0_note_17 ?_
    refine lv_iload_n hx hb dX0_note_18 rfl (lv_at hl 3 rfl) ?_
    obtain ⟨hi, h⟩ := h
    refine va_iast hx hb hK hP (hD _) hS 1 0 rfl rfl hi dX0_note_19 (fun H locs hP _ hS => ?_)
    obtain ⟨u_2, eu_2⟩ : ∃ z : St, z = (u.1, va_up u.2 0 (upd (u.2 0) ((x1 * (7 : Int32)) + x2).toNatClampNeg x3)) := ⟨_, rfl⟩
    have h := h u_2 eu_2
    have hP : va_P (dC, dI) vwCl (wB g0 g1 cI u_2) H := by rw [eu_2]; exact hP
    exact W.vret hx hb hr (fun t ht _ => ⟨⟨u_2, rfl, h, hPr ht hP⟩, hS.F ht⟩) hS.2.2 dX0_note_20
set_option maxHeartbeats 4000000 in
set_option maxRecDepth 100000 in
theorem c_X0_isLess (l : Launch) (dC : Nat → ClassId) (dI : Nat → Nat → Nat) (g0 g1 : Nat) (cI : ClassId) {u : St} {x1 : Int32} {x2 : Int32} {x3 : Int32} {post : Int32 → Prop} (h : P_X0_isLess u x1 x2 x3 post) : Met l yX0_isLess wsX0_isLess ({ frames := 2, cells := 0, slots := 0, locals := 43 } : Room) (RPre (dC, dI) vwCl (wB g0 g1 cI u) [(cI, .int)] [.ref g0, .int x1, .int x2, .int x3]) (vp_Si post) 0 0 (fun _ => False) := by
  refine Met.ofW (cc := cX0_isLess) (maxL := 5) (ret := (some .boolean)) (by decide) rfl ?_
  intro p e s m args below meth c s₁ B hml hv
  obtain ⟨rfl, hP, hK⟩ := hv
  have hx := B.exec
  have hb := B.bytes
  have hr := B.returns
  have hts := atoms_spec (ws := wsX0_isLess) B.pre
  have hown : s.vm.findClass RX0 = some m.cls := findClass_of_methodNamed B.named
  have hlocks := B.notSynchronized
  have hl := lv_entry ([.ref g0, .int x1, .int x2, .int x3]) (n := 5) (Nat.le_of_ble_eq_true rfl)
  rw [lg_entry_eq]
  generalize (lg_sl ([.ref g0, .int x1, .int x2, .int x3]) ++ List.replicate (5 - (lg_sl ([.ref g0, .int x1, .int x2, .int x3])).length) Slot.unset).toArray = ls at hl ⊢
  have hl : lv_has ls 5 [(0, .ref g0), (1, .int x1), (2, .int x2), (3, .int x3)] := hl
  unfold P_X0_isLess at h
  refine lv_aload_n hx hb dX0_isLess_0 rfl (lv_at hl 0 rfl) ?_
  refine lv_iload_n hx hb dX0_isLess_1 rfl (lv_at hl 1 rfl) ?_
  refine lv_bipush (v := 6) hx hb dX0_isLess_2 (by decide) ?_
  refine vp_callSi (W.runV (As := [.int _, .int _]) (rest := []) ⟨hx, hb, hml, hown, hts⟩ (c_X0_fact l dC dI g0 g1 cI h) (cwV 2 hts gX0_isLess_X0_fact rfl rfl rfl (by decide +kernel) ⟨Nat.le_of_ble_eq_true rfl, Nat.le_of_ble_eq_true rfl⟩) ⟨fbR, va_recv hK hP (ci := 0) (q0 := 0) rfl rfl, fun U hU hW => ⟨rfl, by rw [hU]; exact hP, va_K.moved hW.alike hK⟩⟩ rfl rfl hl.1 rfl (lv_room (Nat.le_of_ble_eq_true rfl)) dX0_isLess_4 ⟨Nat.zero_le _, Nat.zero_le _⟩) (fun r_1 h => ?_)
  refine lv_istore (lv' := [(4, .int r_1), (0, .ref g0), (1, .int x1), (2, .int x2), (3, .int x3)]) hx hb dX0_isLess_7 hl (by decide) rfl (fun ls hl => ?_)
  refine lv_iload hx hb dX0_isLess_9 (lv_at hl 0 rfl) ?_
  refine lv_iload_n hx hb dX0_isLess_11 rfl (lv_at hl 4 rfl) ?_
  obtain ⟨J_31, hJi_31, h⟩ := jnE0 h
  have hJ_31 : J_31 → ∀ (ls : Array Slot), lv_has ls 5 [] → W p l e (headSpec wsX0_isLess ({ frames := 2, cells := 0, slots := 0, locals := 43 } : Room)).room s m ([.ref g0, .int x1, .int x2, .int x3] : List Value).toArray below meth c s.heap [] 0 0 (MQ below (vp_Si post) ([.ref g0, .int x1, .int x2, .int x3] : List Value).toArray s 0 0 (fun _ => False)) (F0 m 31 ls []) := by
    intro  h ls hl
    have h := hJi_31 h
    refine lv_iconst (v := 1) hx hb dX0_isLess_31 (by decide) ?_
    refine lv_goto (tgt := 36) hx hb dX0_isLess_32 (by decide) ?_
    exact W.zret (ty := .boolean) hx hb hr rfl (fun t ht _ => ⟨_, rfl, h, ht⟩) (fun q hq => by cases hq) dX0_isLess_36
  refine lv_icmp_lt (tgt := 31) hx hb dX0_isLess_12 (by decide) (fun c_12 => ?_) (fun c_12 => ?_)
  · have h := br1 h c_12
    exact hJ_31 h _ (lv_sub hl [] rfl)
  · have h := br2 h c_12
    refine lv_iload hx hb dX0_isLess_15 (lv_at hl 0 rfl) ?_
    refine lv_iload_n hx hb dX0_isLess_17 rfl (lv_at hl 4 rfl) ?_
    refine lv_icmp_ne (tgt := 35) hx hb dX0_isLess_18 (by decide) (fun c_18 => ?_) (fun c_18 => ?_)
    · have h := br2 h c_18
      refine lv_iconst (v := 0) hx hb dX0_isLess_35 (by decide) ?_
      exact W.zret (ty := .boolean) hx hb hr rfl (fun t ht _ => ⟨_, rfl, h, ht⟩) (fun q hq => by cases hq) dX0_isLess_36
    · have h := br1 h c_18
      refine lv_aload_n hx hb dX0_isLess_21 rfl (lv_at hl 1 rfl) ?_
      refine lv_iload_n hx hb dX0_isLess_22 rfl (lv_at hl 2 rfl) ?_
      refine lv_iconst (v := 5) hx hb dX0_isLess_23 (by decide) ?_
      refine vp_callSi (W.runV (As := [.int _, .int _]) (rest := []) ⟨hx, hb, hml, hown, hts⟩ (c_X0_fact l dC dI g0 g1 cI h) (cwV 2 hts gX0_isLess_X0_fact rfl rfl rfl (by decide +kernel) ⟨Nat.le_of_ble_eq_true rfl, Nat.le_of_ble_eq_true rfl⟩) ⟨fbR, va_recv hK hP (ci := 0) (q0 := 0) rfl rfl, fun U hU hW => ⟨rfl, by rw [hU]; exact hP, va_K.moved hW.alike hK⟩⟩ rfl rfl hl.1 rfl (lv_room (Nat.le_of_ble_eq_true rfl)) dX0_isLess_24 ⟨Nat.zero_le _, Nat.zero_le _⟩) (fun r_2 h => ?_)
      refine lv_iload_n hx hb dX0_isLess_27 rfl (lv_at hl 3 rfl) ?_
      refine lv_icmp_ge (tgt := 35) hx hb dX0_isLess_28 (by decide) (fun c_28 => ?_) (fun c_28 => ?_)
      · have h := br1 h c_28
        refine lv_iconst (v := 0) hx hb dX0_isLess_35 (by decide) ?_
        exact W.zret (ty := .boolean) hx hb hr rfl (fun t ht _ => ⟨_, rfl, h, ht⟩) (fun q hq => by cases hq) dX0_isLess_36
      · have h := br2 h c_28
        exact hJ_31 h _ (lv_sub hl [] rfl)
set_option maxHeartbeats 4000000 in
set_option maxRecDepth 100000 in
theorem c_X0_add (l : Launch) (dC : Nat → ClassId) (dI : Nat → Nat → Nat) (g0 g1 : Nat) (cI : ClassId) (sz : Nat) {u : St} {x1 : Int32} {x2 : Int32} {x3 : Int32} {x4 : Int32} {post : St → Prop} (h : P_X0_add u x1 x2 x3 x4 post) : Met l yX0_add wsX0_add ({ frames := 3, cells := 0, slots := 0, locals := 67 } : Room) (MPre (dC, dI) vwCl (wB g0 g1 cI u) [(cI, .int)] sz [.ref g0, .int x1, .int x2, .int x3, .int x4]) (va_Qv post (fun (u2 : St) (t : State) => va_P (dC, dI) vwCl (wB g0 g1 cI u2) t.heap) (va_A (wB g0 g1 cI u) sz)) 0 0 (va_A (wB g0 g1 cI u) sz) := by
  refine Met.ofW (cc := cX0_add) (maxL := 6) (ret := none) (by decide) rfl ?_
  intro p e s m args below meth c s₁ B hml hv
  obtain ⟨rfl, hsz, hP, hK, hD0⟩ := hv
  have hx := B.exec
  have hb := B.bytes
  have hr := B.returns
  have hts := atoms_spec (ws := wsX0_add) B.pre
  have hown : s.vm.findClass RX0 = some m.cls := findClass_of_methodNamed B.named
  have hlocks := B.notSynchronized
  subst hsz
  have hD1 := hD0.self (sz := s.heap.size)
  generalize hAe : va_A (wB g0 g1 cI u) s.heap.size = A at hD1 ⊢
  have hA : ∀ q : Nat, s.heap.size ≤ q → A q := fun q h => by rw [← hAe]; exact Or.inr h
  have hD : ∀ z, va_D A (wB g0 g1 cI z) := fun z => va_Dsame hD1 rfl
  have hS : va_S A s.heap s.heap [] := va_S.rf
  have hl := lv_entry ([.ref g0, .int x1, .int x2, .int x3, .int x4]) (n := 6) (Nat.le_of_ble_eq_true rfl)
  rw [lg_entry_eq]
  generalize (lg_sl ([.ref g0, .int x1, .int x2, .int x3, .int x4]) ++ List.replicate (6 - (lg_sl ([.ref g0, .int x1, .int x2, .int x3, .int x4])).length) Slot.unset).toArray = ls at hl ⊢
  have hl : lv_has ls 6 [(0, .ref g0), (1, .int x1), (2, .int x2), (3, .int x3), (4, .int x4)] := hl
  have i_X0 : ∀ w ∈ u_ws RX0 TX0 5, w ∈ wsX0_add := by decide +kernel
  have f_11 := hts (.fieldLink RX0 11 "SliceBody$Boards" "facts" "[I") (by decide +kernel)
  have f_19 := hts (.fieldLink RX0 19 "SliceBody$Boards" "count" "I") (by decide +kernel)
  have k_A31_0 := hts (.methodLink RX0 31 arraycopyName) (by decide +kernel)
  have k_A31_1 := hts (.native arraycopyName) (by decide +kernel)
  have k_A31_2 := hts (.static arraycopyName) (by decide +kernel)
  have k_A31_3 := hts (.initialized "java/lang/System") (by decide +kernel)
  unfold P_X0_add at h
  refine lv_aload_n hx hb dX0_add_0 rfl (lv_at hl 0 rfl) ?_
  refine va_get (D := (dC, dI)) (ci := 0) (v := .int (u.1 2)) (C := RX0) (T := TX0) (N := 5) hx hb hts i_X0 hown hK hP 0 rfl rfl 2 (by decide) f_19 (fun _ h9 => h9) rfl dX0_add_1 ?_
  refine lv_bipush (v := 16) hx hb dX0_add_4 (by decide) ?_
  refine lv_icmp_lt (tgt := 10) hx hb dX0_add_6 (by decide) (fun c_6 => ?_) (fun c_6 => ?_)
  · have h := br1 h c_6
    refine lv_aload_n hx hb dX0_add_10 rfl (lv_at hl 0 rfl) ?_
    refine va_get (D := (dC, dI)) (ci := 0) (v := .int (u.1 2)) (C := RX0) (T := TX0) (N := 5) hx hb hts i_X0 hown hK hP 0 rfl rfl 2 (by decide) f_19 (fun _ h9 => h9) rfl dX0_add_11 ?_
    refine lv_topi (fun y_1 ey_1 => ?_)
    have h := h y_1 ey_1
    refine lv_istore (lv' := [(5, .int y_1), (0, .ref g0), (1, .int x1), (2, .int x2), (3, .int x3), (4, .int x4)]) hx hb dX0_add_14 hl (by decide) rfl (fun ls hl => ?_)
    obtain ⟨K_16, hKi_16, h⟩ := jnE1 h
    have hK_16 : ∀ (v5_5 : Int32), K_16 v5_5 → ∀ (H : Heap) (locs : List Loc), va_P (dC, dI) vwCl (wB g0 g1 cI u) H → va_S A s.heap H locs → ∀ (ls : Array Slot), lv_has ls 6 [(0, .ref g0), (1, .int x1), (2, .int x2), (3, .int x3), (4, .int x4), (5, .int v5_5)] → W p l e (headSpec wsX0_add ({ frames := 3, cells := 0, slots := 0, locals := 67 } : Room)).room s m ([.ref g0, .int x1, .int x2, .int x3, .int x4] : List Value).toArray below meth c H locs 0 0 (MQ below (va_Qv post (fun (u2 : St) (t : State) => va_P (dC, dI) vwCl (wB g0 g1 cI u2) t.heap) A) ([.ref g0, .int x1, .int x2, .int x3, .int x4] : List Value).toArray s 0 0 A) (F0 m 41 ls []) := by
      intro v5_5 h H locs hP hS ls hl
      have h := hKi_16 _ h
      refine lv_aload_n hx hb dX0_add_41 rfl (lv_at hl 0 rfl) ?_
      refine va_get (D := (dC, dI)) (ci := 0) (v := .ref g1) (C := RX0) (T := TX0) (N := 5) hx hb hts i_X0 hown hK hP 0 rfl rfl 0 (by decide) f_11 (fun _ h9 => h9) rfl dX0_add_42 ?_
      refine lv_iload hx hb dX0_add_45 (lv_at hl 5 rfl) ?_
      refine lv_bipush (v := 7) hx hb dX0_add_47 (by decide) ?_
      refine lv_imul hx hb dX0_add_49 ?_
      refine lv_aload_n hx hb dX0_add_50 rfl (lv_at hl 0 rfl) ?_
      refine va_get (D := (dC, dI)) (ci := 0) (v := .ref g1) (C := RX0) (T := TX0) (N := 5) hx hb hts i_X0 hown hK hP 0 rfl rfl 0 (by decide) f_11 (fun _ h9 => h9) rfl dX0_add_51 ?_
      refine lv_iload hx hb dX0_add_54 (lv_at hl 5 rfl) ?_
      refine lv_iconst (v := 1) hx hb dX0_add_56 (by decide) ?_
      refine lv_iadd hx hb dX0_add_57 ?_
      refine lv_bipush (v := 7) hx hb dX0_add_58 (by decide) ?_
      refine lv_imul hx hb dX0_add_60 ?_
      refine lv_aload_n hx hb dX0_add_61 rfl (lv_at hl 0 rfl) ?_
      refine va_get (D := (dC, dI)) (ci := 0) (v := .int (u.1 2)) (C := RX0) (T := TX0) (N := 5) hx hb hts i_X0 hown hK hP 0 rfl rfl 2 (by decide) f_19 (fun _ h9 => h9) rfl dX0_add_62 ?_
      refine lv_iload hx hb dX0_add_65 (lv_at hl 5 rfl) ?_
      refine lv_isub hx hb dX0_add_67 ?_
      refine lv_bipush (v := 7) hx hb dX0_add_68 (by decide) ?_
      refine lv_imul hx hb dX0_add_70 ?_
      obtain ⟨⟨hc1, hc2, hc3, hc4, hc5⟩, h⟩ := h
      refine va_copyi hx hb (hml.trans hl.1.symm) hown k_A31_0 k_A31_1 k_A31_2 k_A31_3 hK hP (hD _) hS 1 1 0 0 rfl rfl rfl rfl rfl hc1 hc2 hc3 hc4 hc5 (fun _ _ => rfl) (Nat.le_of_ble_eq_true rfl) (Nat.le_of_ble_eq_true rfl) dX0_add_71 (fun H locs hP _ hS => ?_)
      obtain ⟨u_6, eu_6⟩ : ∃ z : St, z = (u.1, va_up u.2 0 (va_cpy (u.2 0) (u.2 0) (v5_5 * (7 : Int32)).toNatClampNeg ((v5_5 + (1 : Int32)) * (7 : Int32)).toNatClampNeg (((u.1 2) - v5_5) * (7 : Int32)).toNatClampNeg)) := ⟨_, rfl⟩
      have h := h u_6 eu_6
      have hP : va_P (dC, dI) vwCl (wB g0 g1 cI u_6) H := by rw [eu_6]; exact hP
      refine lv_aload_n hx hb dX0_add_74 rfl (lv_at hl 0 rfl) ?_
      refine lv_iload hx hb dX0_add_75 (lv_at hl 5 rfl) ?_
      refine lv_iconst (v := 0) hx hb dX0_add_77 (by decide) ?_
      refine lv_iload_n hx hb dX0_add_78 rfl (lv_at hl 1 rfl) ?_
      have hFc := fr_all (ws := wB g0 g1 cI u_6) (hD u_6) hS hA
      refine va_callv (va_runV (As := [.int _, .int _, .int _]) (rest := []) ⟨hx, hb, hml, hown, hts⟩ (c_X0_note l dC dI g0 g1 cI (H).size h) (cwV 3 hts gX0_add_X0_note rfl rfl rfl (by decide +kernel) ⟨Nat.le_of_ble_eq_true rfl, Nat.le_of_ble_eq_true rfl⟩) ⟨fbM, va_recv hK hP (ci := 0) (q0 := 0) rfl rfl, fun U hU hW => ⟨rfl, by rw [hU], by rw [hU]; exact hP, va_K.moved hW.alike hK, (hD u_6).weaken (fun _ _ _ _ => trivial)⟩⟩ rfl rfl hl.1 rfl (lv_room (Nat.le_of_ble_eq_true rfl)) dX0_add_79 ⟨Nat.zero_le _, Nat.zero_le _⟩) hS (fun q _ h => hFc q h) hFc (fun u_8 t H locs ht _ h hP1 _ hk1 hS => ?_)
      have hP : va_P (dC, dI) vwCl (wB g0 g1 cI u_8) H := by rw [← ht]; exact hP1
      refine lv_aload_n hx hb dX0_add_82 rfl (lv_at hl 0 rfl) ?_
      refine lv_iload hx hb dX0_add_83 (lv_at hl 5 rfl) ?_
      refine lv_iconst (v := 1) hx hb dX0_add_85 (by decide) ?_
      refine lv_iload_n hx hb dX0_add_86 rfl (lv_at hl 2 rfl) ?_
      have hFc := fr_all (ws := wB g0 g1 cI u_8) (hD u_8) hS hA
      refine va_callv (va_runV (As := [.int _, .int _, .int _]) (rest := []) ⟨hx, hb, hml, hown, hts⟩ (c_X0_note l dC dI g0 g1 cI (H).size h) (cwV 3 hts gX0_add_X0_note rfl rfl rfl (by decide +kernel) ⟨Nat.le_of_ble_eq_true rfl, Nat.le_of_ble_eq_true rfl⟩) ⟨fbM, va_recv hK hP (ci := 0) (q0 := 0) rfl rfl, fun U hU hW => ⟨rfl, by rw [hU], by rw [hU]; exact hP, va_K.moved hW.alike hK, (hD u_8).weaken (fun _ _ _ _ => trivial)⟩⟩ rfl rfl hl.1 rfl (lv_room (Nat.le_of_ble_eq_true rfl)) dX0_add_87 ⟨Nat.zero_le _, Nat.zero_le _⟩) hS (fun q _ h => hFc q h) hFc (fun u_10 t H locs ht _ h hP1 _ hk1 hS => ?_)
      have hP : va_P (dC, dI) vwCl (wB g0 g1 cI u_10) H := by rw [← ht]; exact hP1
      refine lv_aload_n hx hb dX0_add_90 rfl (lv_at hl 0 rfl) ?_
      refine lv_iload hx hb dX0_add_91 (lv_at hl 5 rfl) ?_
      refine lv_iconst (v := 5) hx hb dX0_add_93 (by decide) ?_
      refine lv_iload_n hx hb dX0_add_94 rfl (lv_at hl 3 rfl) ?_
      have hFc := fr_all (ws := wB g0 g1 cI u_10) (hD u_10) hS hA
      refine va_callv (va_runV (As := [.int _, .int _, .int _]) (rest := []) ⟨hx, hb, hml, hown, hts⟩ (c_X0_note l dC dI g0 g1 cI (H).size h) (cwV 3 hts gX0_add_X0_note rfl rfl rfl (by decide +kernel) ⟨Nat.le_of_ble_eq_true rfl, Nat.le_of_ble_eq_true rfl⟩) ⟨fbM, va_recv hK hP (ci := 0) (q0 := 0) rfl rfl, fun U hU hW => ⟨rfl, by rw [hU], by rw [hU]; exact hP, va_K.moved hW.alike hK, (hD u_10).weaken (fun _ _ _ _ => trivial)⟩⟩ rfl rfl hl.1 rfl (lv_room (Nat.le_of_ble_eq_true rfl)) dX0_add_95 ⟨Nat.zero_le _, Nat.zero_le _⟩) hS (fun q _ h => hFc q h) hFc (fun u_12 t H locs ht _ h hP1 _ hk1 hS => ?_)
      have hP : va_P (dC, dI) vwCl (wB g0 g1 cI u_12) H := by rw [← ht]; exact hP1
      refine lv_aload_n hx hb dX0_add_98 rfl (lv_at hl 0 rfl) ?_
      refine lv_iload hx hb dX0_add_99 (lv_at hl 5 rfl) ?_
      refine lv_bipush (v := 6) hx hb dX0_add_101 (by decide) ?_
      refine lv_iload hx hb dX0_add_103 (lv_at hl 4 rfl) ?_
      have hFc := fr_all (ws := wB g0 g1 cI u_12) (hD u_12) hS hA
      refine va_callv (va_runV (As := [.int _, .int _, .int _]) (rest := []) ⟨hx, hb, hml, hown, hts⟩ (c_X0_note l dC dI g0 g1 cI (H).size h) (cwV 3 hts gX0_add_X0_note rfl rfl rfl (by decide +kernel) ⟨Nat.le_of_ble_eq_true rfl, Nat.le_of_ble_eq_true rfl⟩) ⟨fbM, va_recv hK hP (ci := 0) (q0 := 0) rfl rfl, fun U hU hW => ⟨rfl, by rw [hU], by rw [hU]; exact hP, va_K.moved hW.alike hK, (hD u_12).weaken (fun _ _ _ _ => trivial)⟩⟩ rfl rfl hl.1 rfl (lv_room (Nat.le_of_ble_eq_true rfl)) dX0_add_105 ⟨Nat.zero_le _, Nat.zero_le _⟩) hS (fun q _ h => hFc q h) hFc (fun u_14 t H locs ht _ h hP1 _ hk1 hS => ?_)
      have hP : va_P (dC, dI) vwCl (wB g0 g1 cI u_14) H := by rw [← ht]; exact hP1
      refine lv_aload_n hx hb dX0_add_108 rfl (lv_at hl 0 rfl) ?_
      refine lv_dup hx hb dX0_add_109 rfl ?_
      refine va_get (D := (dC, dI)) (ci := 0) (v := .int (u_14.1 2)) (C := RX0) (T := TX0) (N := 5) hx hb hts i_X0 hown hK hP 0 rfl rfl 2 (by decide) f_19 (fun _ h9 => h9) rfl dX0_add_110 ?_
      refine lv_iconst (v := 1) hx hb dX0_add_113 (by decide) ?_
      refine lv_iadd hx hb dX0_add_114 ?_
      refine lv_topi (fun y_15 ey_15 => ?_)
      have h := h y_15 ey_15
      refine va_put (D := (dC, dI)) (ci := 0) (v := .int y_15) (ty := .int) (C := RX0) (T := TX0) (N := 5) hx hb hts i_X0 tyX0 tyX0_ok nmX0 hown hK hP (hD _) hS 0 rfl rfl 2 (by decide) f_19 (fun _ h9 => h9) rfl (by decide +kernel) rfl rfl (Nat.le_of_ble_eq_true rfl) dX0_add_115 (fun H locs hP _ hS => ?_)
      obtain ⟨u_16, eu_16⟩ : ∃ z : St, z = (upd u_14.1 2 y_15, u_14.2) := ⟨_, rfl⟩
      have h := h u_16 eu_16
      have hP : va_P (dC, dI) vwCl (wB g0 g1 cI u_16) H := by rw [eu_16]; exact hP
      exact W.vret hx hb hr (fun t ht _ => ⟨⟨u_16, rfl, h, hPr ht hP⟩, hS.F ht⟩) hS.2.2 dX0_add_118
    obtain ⟨n, h⟩ := h
    have loop_16 : ∀ (n : Nat) (v5_2 : Int32), L_X0_add_16 post K_16 u x3 x4 n v5_2 → ∀ (H : Heap) (locs : List Loc), va_P (dC, dI) vwCl (wB g0 g1 cI u) H → va_S A s.heap H locs → ∀ (ls : Array Slot), lv_has ls 6 [(0, .ref g0), (1, .int x1), (2, .int x2), (3, .int x3), (4, .int x4), (5, .int v5_2)] → W p l e (headSpec wsX0_add ({ frames := 3, cells := 0, slots := 0, locals := 67 } : Room)).room s m ([.ref g0, .int x1, .int x2, .int x3, .int x4] : List Value).toArray below meth c H locs 0 0 (MQ below (va_Qv post (fun (u2 : St) (t : State) => va_P (dC, dI) vwCl (wB g0 g1 cI u2) t.heap) A) ([.ref g0, .int x1, .int x2, .int x3, .int x4] : List Value).toArray s 0 0 A) (F0 m 16 ls []) := by
      intro n
      induction n with
      | zero => intro v5_2 h; rw [L_X0_add_16] at h; exact h.elim
      | succ n ih_16 =>
        intro v5_2 h H locs hP hS ls hl
        rw [L_X0_add_16] at h
        refine lv_iload hx hb dX0_add_16 (lv_at hl 5 rfl) ?_
        refine lv_if_le (tgt := 41) hx hb dX0_add_18 (by decide) (fun c_18 => ?_) (fun c_18 => ?_)
        · have h := br1 h c_18
          exact hK_16 _ h _ _ hP hS _ (lv_sub hl [0, 1, 2, 3, 4, 5] rfl)
        · have h := br2 h c_18
          refine lv_aload_n hx hb dX0_add_21 rfl (lv_at hl 0 rfl) ?_
          refine lv_iload hx hb dX0_add_22 (lv_at hl 5 rfl) ?_
          refine lv_iconst (v := 1) hx hb dX0_add_24 (by decide) ?_
          refine lv_isub hx hb dX0_add_25 ?_
          refine lv_iload_n hx hb dX0_add_26 rfl (lv_at hl 3 rfl) ?_
          refine lv_iload hx hb dX0_add_27 (lv_at hl 4 rfl) ?_
          refine vp_callSi (W.runV (As := [.int _, .int _, .int _]) (rest := []) ⟨hx, hb, hml, hown, hts⟩ (c_X0_isLess l dC dI g0 g1 cI h) (cwV 3 hts gX0_add_X0_isLess rfl rfl rfl (by decide +kernel) ⟨Nat.le_of_ble_eq_true rfl, Nat.le_of_ble_eq_true rfl⟩) ⟨fbR, va_recv hK hP (ci := 0) (q0 := 0) rfl rfl, fun U hU hW => ⟨rfl, by rw [hU]; exact hP, va_K.moved hW.alike hK⟩⟩ rfl rfl hl.1 rfl (lv_room (Nat.le_of_ble_eq_true rfl)) dX0_add_29 ⟨Nat.zero_le _, Nat.zero_le _⟩) (fun r_3 h => ?_)
          refine lv_if_eq (tgt := 41) hx hb dX0_add_32 (by decide) (fun c_32 => ?_) (fun c_32 => ?_)
          · have h := br1 h c_32
            exact hK_16 _ h _ _ hP hS _ (lv_sub hl [0, 1, 2, 3, 4, 5] rfl)
          · have h := br2 h c_32
            obtain ⟨y_4, ey_4⟩ : ∃ z : Int32, z = v5_2 + (-1 : Int32) := ⟨_, rfl⟩
            have h := h y_4 ey_4
            refine lv_iinc (v := y_4) (lv' := [(5, .int y_4), (0, .ref g0), (1, .int x1), (2, .int x2), (3, .int x3), (4, .int x4)]) hx hb dX0_add_35 hl (k := 5) rfl (by rw [ey_4]; rfl) (by decide) rfl (fun ls hl => ?_)
            refine lv_goto (tgt := 16) hx hb dX0_add_38 (by decide) ?_
            exact ih_16 _ h _ _ hP hS _ (lv_sub hl [1, 2, 3, 4, 5, 0] rfl)
    exact loop_16 n _ h _ _ hP hS _ (lv_sub hl [1, 2, 3, 4, 5, 0] rfl)
  · have h := br2 h c_6
    exact W.vret hx hb hr (fun t ht _ => ⟨⟨u, rfl, h, hPr ht hP⟩, hS.F ht⟩) hS.2.2 dX0_add_9
set_option maxHeartbeats 4000000 in
set_option maxRecDepth 100000 in
theorem c_X0_layInRows (l : Launch) (dC : Nat → ClassId) (dI : Nat → Nat → Nat) (g0 g1 : Nat) (cI : ClassId) (sz : Nat) {u : St} {x1 : Int32} {x2 : Int32} {post : St → Prop} (h : P_X0_layInRows u x1 x2 post) : Met l yX0_layInRows wsX0_layInRows ({ frames := 2, cells := 0, slots := 0, locals := 44 } : Room) (MPre (dC, dI) vwCl (wB g0 g1 cI u) [(cI, .int)] sz [.ref g0, .int x1, .int x2]) (va_Qv post (fun (u2 : St) (t : State) => va_P (dC, dI) vwCl (wB g0 g1 cI u2) t.heap) (va_A (wB g0 g1 cI u) sz)) 0 0 (va_A (wB g0 g1 cI u) sz) := by
  refine Met.ofW (cc := cX0_layInRows) (maxL := 11) (ret := none) (by decide) rfl ?_
  intro p e s m args below meth c s₁ B hml hv
  obtain ⟨rfl, hsz, hP, hK, hD0⟩ := hv
  have hx := B.exec
  have hb := B.bytes
  have hr := B.returns
  have hts := atoms_spec (ws := wsX0_layInRows) B.pre
  have hown : s.vm.findClass RX0 = some m.cls := findClass_of_methodNamed B.named
  have hlocks := B.notSynchronized
  subst hsz
  have hD1 := hD0.self (sz := s.heap.size)
  generalize hAe : va_A (wB g0 g1 cI u) s.heap.size = A at hD1 ⊢
  have hA : ∀ q : Nat, s.heap.size ≤ q → A q := fun q h => by rw [← hAe]; exact Or.inr h
  have hD : ∀ z, va_D A (wB g0 g1 cI z) := fun z => va_Dsame hD1 rfl
  have hS : va_S A s.heap s.heap [] := va_S.rf
  have hl := lv_entry ([.ref g0, .int x1, .int x2]) (n := 11) (Nat.le_of_ble_eq_true rfl)
  rw [lg_entry_eq]
  generalize (lg_sl ([.ref g0, .int x1, .int x2]) ++ List.replicate (11 - (lg_sl ([.ref g0, .int x1, .int x2])).length) Slot.unset).toArray = ls at hl ⊢
  have hl : lv_has ls 11 [(0, .ref g0), (1, .int x1), (2, .int x2)] := hl
  have i_X0 : ∀ w ∈ u_ws RX0 TX0 5, w ∈ wsX0_layInRows := by decide +kernel
  have f_15 := hts (.fieldLink RX0 15 "SliceBody$Boards" "known" "Z") (by decide +kernel)
  have f_19 := hts (.fieldLink RX0 19 "SliceBody$Boards" "count" "I") (by decide +kernel)
  have f_45 := hts (.fieldLink RX0 45 "SliceBody$Boards" "boardCount" "I") (by decide +kernel)
  have f_51 := hts (.fieldLink RX0 51 "SliceBody$Boards" "fewest" "I") (by decide +kernel)
  unfold P_X0_layInRows at h
  refine lv_iconst (v := 0) hx hb dX0_layInRows_0 (by decide) ?_
  refine lv_istore_n (lv' := [(3, .int (0 : Int32)), (0, .ref g0), (1, .int x1), (2, .int x2)]) hx hb dX0_layInRows_1 rfl hl (by decide) rfl (fun ls hl => ?_)
  refine lv_iconst (v := 0) hx hb dX0_layInRows_2 (by decide) ?_
  refine lv_istore (lv' := [(4, .int (0 : Int32)), (3, .int (0 : Int32)), (0, .ref g0), (1, .int x1), (2, .int x2)]) hx hb dX0_layInRows_3 hl (by decide) rfl (fun ls hl => ?_)
  refine lv_iconst (v := 0) hx hb dX0_layInRows_5 (by decide) ?_
  refine lv_istore (lv' := [(5, .int (0 : Int32)), (4, .int (0 : Int32)), (3, .int (0 : Int32)), (0, .ref g0), (1, .int x1), (2, .int x2)]) hx hb dX0_layInRows_6 hl (by decide) rfl (fun ls hl => ?_)
  refine lv_iload_n hx hb dX0_layInRows_8 rfl (lv_at hl 4 rfl) ?_
  refine lv_istore (lv' := [(6, .int x1), (5, .int (0 : Int32)), (4, .int (0 : Int32)), (3, .int (0 : Int32)), (0, .ref g0), (1, .int x1), (2, .int x2)]) hx hb dX0_layInRows_9 hl (by decide) rfl (fun ls hl => ?_)
  refine lv_iconst (v := 0) hx hb dX0_layInRows_11 (by decide) ?_
  refine lv_istore (lv' := [(7, .int (0 : Int32)), (6, .int x1), (5, .int (0 : Int32)), (4, .int (0 : Int32)), (3, .int (0 : Int32)), (0, .ref g0), (1, .int x1), (2, .int x2)]) hx hb dX0_layInRows_12 hl (by decide) rfl (fun ls hl => ?_)
  refine lv_iconst (v := 0) hx hb dX0_layInRows_14 (by decide) ?_
  refine lv_istore (lv' := [(8, .int (0 : Int32)), (7, .int (0 : Int32)), (6, .int x1), (5, .int (0 : Int32)), (4, .int (0 : Int32)), (3, .int (0 : Int32)), (0, .ref g0), (1, .int x1), (2, .int x2)]) hx hb dX0_layInRows_15 hl (by decide) rfl (fun ls hl => ?_)
  obtain ⟨K_17, hKi_17, h⟩ := jnE3 h
  have hK_17 : ∀ (v3_25 : Int32) (v7_26 : Int32) (u_27 : St), K_17 v3_25 v7_26 u_27 → ∀ (H : Heap) (locs : List Loc), va_P (dC, dI) vwCl (wB g0 g1 cI u_27) H → va_S A s.heap H locs → ∀ (ls : Array Slot), lv_has ls 11 [(0, .ref g0), (1, .int x1), (2, .int x2), (3, .int v3_25), (7, .int v7_26)] → W p l e (headSpec wsX0_layInRows ({ frames := 2, cells := 0, slots := 0, locals := 44 } : Room)).room s m ([.ref g0, .int x1, .int x2] : List Value).toArray below meth c H locs 0 0 (MQ below (va_Qv post (fun (u2 : St) (t : State) => va_P (dC, dI) vwCl (wB g0 g1 cI u2) t.heap) A) ([.ref g0, .int x1, .int x2] : List Value).toArray s 0 0 A) (F0 m 132 ls []) := by
    intro v3_25 v7_26 u_27 h H locs hP hS ls hl
    have h := hKi_17 _ _ _ h
    refine lv_aload_n hx hb dX0_layInRows_132 rfl (lv_at hl 0 rfl) ?_
    refine lv_aload_n hx hb dX0_layInRows_133 rfl (lv_at hl 0 rfl) ?_
    refine va_get (D := (dC, dI)) (ci := 0) (v := .int (u_27.1 2)) (C := RX0) (T := TX0) (N := 5) hx hb hts i_X0 hown hK hP 0 rfl rfl 2 (by decide) f_19 (fun _ h9 => h9) rfl dX0_layInRows_134 ?_
    obtain ⟨J_147, hJi_147, h⟩ := jnE1 h
    have hJ_147 : ∀ (w_28 : Int32), J_147 w_28 → ∀ (H : Heap) (locs : List Loc), va_P (dC, dI) vwCl (wB g0 g1 cI u_27) H → va_S A s.heap H locs → ∀ (ls : Array Slot), lv_has ls 11 [(0, .ref g0), (1, .int x1), (2, .int x2), (7, .int v7_26)] → W p l e (headSpec wsX0_layInRows ({ frames := 2, cells := 0, slots := 0, locals := 44 } : Room)).room s m ([.ref g0, .int x1, .int x2] : List Value).toArray below meth c H locs 0 0 (MQ below (va_Qv post (fun (u2 : St) (t : State) => va_P (dC, dI) vwCl (wB g0 g1 cI u2) t.heap) A) ([.ref g0, .int x1, .int x2] : List Value).toArray s 0 0 A) (F0 m 147 ls [.int w_28, .ref g0]) := by
      intro w_28 h H locs hP hS ls hl
      have h := hJi_147 _ h
      refine va_put (D := (dC, dI)) (ci := 0) (v := .int w_28) (ty := .int) (C := RX0) (T := TX0) (N := 5) hx hb hts i_X0 tyX0 tyX0_ok nmX0 hown hK hP (hD _) hS 0 rfl rfl 3 (by decide) f_45 (fun _ h9 => h9) rfl (by decide +kernel) rfl rfl (Nat.le_of_ble_eq_true rfl) dX0_layInRows_147 (fun H locs hP _ hS => ?_)
      obtain ⟨u_29, eu_29⟩ : ∃ z : St, z = (upd u_27.1 3 w_28, u_27.2) := ⟨_, rfl⟩
      have h := h u_29 eu_29
      have hP : va_P (dC, dI) vwCl (wB g0 g1 cI u_29) H := by rw [eu_29]; exact hP
      refine lv_aload_n hx hb dX0_layInRows_150 rfl (lv_at hl 0 rfl) ?_
      refine lv_iload hx hb dX0_layInRows_151 (lv_at hl 3 rfl) ?_
      refine lv_iload_n hx hb dX0_layInRows_153 rfl (lv_at hl 1 rfl) ?_
      refine lv_iload_n hx hb dX0_layInRows_154 rfl (lv_at hl 2 rfl) ?_
      refine lv_imul hx hb dX0_layInRows_155 ?_
      refine vp_callSi (W.runS (As := [.int _, .int _]) (rest := [.ref g0]) ⟨hx, hb, hml, hown, hts⟩ (c_X0_quotientCutUp l h) (va_cwS 2 hts gX0_layInRows_X0_quotientCutUp rfl rfl rfl (by decide +kernel) ⟨Nat.le_of_ble_eq_true rfl, Nat.le_of_ble_eq_true rfl⟩) ⟨fun _ _ _ _ q => q, fun _ _ _ => ⟨rfl, trivial⟩⟩ rfl rfl hl.1 rfl (lv_room (Nat.le_of_ble_eq_true rfl)) dX0_layInRows_156 ⟨Nat.zero_le _, Nat.zero_le _⟩) (fun r_30 h => ?_)
      refine va_put (D := (dC, dI)) (ci := 0) (v := .int r_30) (ty := .int) (C := RX0) (T := TX0) (N := 5) hx hb hts i_X0 tyX0 tyX0_ok nmX0 hown hK hP (hD _) hS 0 rfl rfl 4 (by decide) f_51 (fun _ h9 => h9) rfl (by decide +kernel) rfl rfl (Nat.le_of_ble_eq_true rfl) dX0_layInRows_159 (fun H locs hP _ hS => ?_)
      obtain ⟨u_31, eu_31⟩ : ∃ z : St, z = (upd u_29.1 4 r_30, u_29.2) := ⟨_, rfl⟩
      have h := h u_31 eu_31
      have hP : va_P (dC, dI) vwCl (wB g0 g1 cI u_31) H := by rw [eu_31]; exact hP
      refine lv_aload_n hx hb dX0_layInRows_162 rfl (lv_at hl 0 rfl) ?_
      refine lv_iconst (v := 1) hx hb dX0_layInRows_163 (by decide) ?_
      refine va_put (D := (dC, dI)) (ci := 0) (v := .int (1 : Int32)) (ty := .boolean) (C := RX0) (T := TX0) (N := 5) hx hb hts i_X0 tyX0 tyX0_ok nmX0 hown hK hP (hD _) hS 0 rfl rfl 1 (by decide) f_15 (fun _ h9 => h9) rfl (by decide +kernel) rfl rfl (Nat.le_of_ble_eq_true rfl) dX0_layInRows_164 (fun H locs hP _ hS => ?_)
      obtain ⟨u_32, eu_32⟩ : ∃ z : St, z = (upd u_31.1 1 (1 : Int32), u_31.2) := ⟨_, rfl⟩
      have h := h u_32 eu_32
      have hP : va_P (dC, dI) vwCl (wB g0 g1 cI u_32) H := by rw [eu_32]; exact hP
      exact W.vret hx hb hr (fun t ht _ => ⟨⟨u_32, rfl, h, hPr ht hP⟩, hS.F ht⟩) hS.2.2 dX0_layInRows_167
    refine lv_if_ne (tgt := 144) hx hb dX0_layInRows_137 (by decide) (fun c_137 => ?_) (fun c_137 => ?_)
    · have h := br2 h c_137
      refine lv_iload_n hx hb dX0_layInRows_144 rfl (lv_at hl 3 rfl) ?_
      refine lv_iconst (v := 1) hx hb dX0_layInRows_145 (by decide) ?_
      refine lv_iadd hx hb dX0_layInRows_146 ?_
      exact hJ_147 _ h _ _ hP hS _ (lv_sub hl [0, 1, 2, 4] rfl)
    · have h := br1 h c_137
      refine lv_iconst (v := 0) hx hb dX0_layInRows_140 (by decide) ?_
      refine lv_goto (tgt := 147) hx hb dX0_layInRows_141 (by decide) ?_
      exact hJ_147 _ h _ _ hP hS _ (lv_sub hl [0, 1, 2, 4] rfl)
  obtain ⟨n, h⟩ := h
  have loop_17 : ∀ (n : Nat) (v3_1 : Int32) (v4_2 : Int32) (v5_3 : Int32) (v6_4 : Int32) (v7_5 : Int32) (v8_6 : Int32) (u_7 : St), L_X0_layInRows_17 post K_17 x1 x2 n v3_1 v4_2 v5_3 v6_4 v7_5 v8_6 u_7 → ∀ (H : Heap) (locs : List Loc), va_P (dC, dI) vwCl (wB g0 g1 cI u_7) H → va_S A s.heap H locs → ∀ (ls : Array Slot), lv_has ls 11 [(0, .ref g0), (1, .int x1), (2, .int x2), (3, .int v3_1), (4, .int v4_2), (5, .int v5_3), (6, .int v6_4), (7, .int v7_5), (8, .int v8_6)] → W p l e (headSpec wsX0_layInRows ({ frames := 2, cells := 0, slots := 0, locals := 44 } : Room)).room s m ([.ref g0, .int x1, .int x2] : List Value).toArray below meth c H locs 0 0 (MQ below (va_Qv post (fun (u2 : St) (t : State) => va_P (dC, dI) vwCl (wB g0 g1 cI u2) t.heap) A) ([.ref g0, .int x1, .int x2] : List Value).toArray s 0 0 A) (F0 m 17 ls []) := by
    intro n
    induction n with
    | zero => intro v3_1 v4_2 v5_3 v6_4 v7_5 v8_6 u_7 h; rw [L_X0_layInRows_17] at h; exact h.elim
    | succ n ih_17 =>
      intro v3_1 v4_2 v5_3 v6_4 v7_5 v8_6 u_7 h H locs hP hS ls hl
      rw [L_X0_layInRows_17] at h
      refine lv_iload hx hb dX0_layInRows_17 (lv_at hl 8 rfl) ?_
      refine lv_aload_n hx hb dX0_layInRows_19 rfl (lv_at hl 0 rfl) ?_
      refine va_get (D := (dC, dI)) (ci := 0) (v := .int (u_7.1 2)) (C := RX0) (T := TX0) (N := 5) hx hb hts i_X0 hown hK hP 0 rfl rfl 2 (by decide) f_19 (fun _ h9 => h9) rfl dX0_layInRows_20 ?_
      refine lv_icmp_ge (tgt := 132) hx hb dX0_layInRows_23 (by decide) (fun c_23 => ?_) (fun c_23 => ?_)
      · have h := br1 h c_23
        exact hK_17 _ _ _ h _ _ hP hS _ (lv_sub hl [0, 1, 2, 3, 7] rfl)
      · have h := br2 h c_23
        refine lv_aload_n hx hb dX0_layInRows_26 rfl (lv_at hl 0 rfl) ?_
        refine lv_iload hx hb dX0_layInRows_27 (lv_at hl 8 rfl) ?_
        refine lv_iconst (v := 5) hx hb dX0_layInRows_29 (by decide) ?_
        refine vp_callSi (W.runV (As := [.int _, .int _]) (rest := []) ⟨hx, hb, hml, hown, hts⟩ (c_X0_fact l dC dI g0 g1 cI h) (cwV 2 hts gX0_layInRows_X0_fact rfl rfl rfl (by decide +kernel) ⟨Nat.le_of_ble_eq_true rfl, Nat.le_of_ble_eq_true rfl⟩) ⟨fbR, va_recv hK hP (ci := 0) (q0 := 0) rfl rfl, fun U hU hW => ⟨rfl, by rw [hU]; exact hP, va_K.moved hW.alike hK⟩⟩ rfl rfl hl.1 rfl (lv_room (Nat.le_of_ble_eq_true rfl)) dX0_layInRows_30 ⟨Nat.zero_le _, Nat.zero_le _⟩) (fun r_8 h => ?_)
        refine lv_istore (lv' := [(9, .int r_8), (0, .ref g0), (1, .int x1), (2, .int x2), (3, .int v3_1), (4, .int v4_2), (5, .int v5_3), (6, .int v6_4), (7, .int v7_5), (8, .int v8_6)]) hx hb dX0_layInRows_33 hl (by decide) rfl (fun ls hl => ?_)
        refine lv_aload_n hx hb dX0_layInRows_35 rfl (lv_at hl 1 rfl) ?_
        refine lv_iload hx hb dX0_layInRows_36 (lv_at hl 9 rfl) ?_
        refine lv_bipush (v := 6) hx hb dX0_layInRows_38 (by decide) ?_
        refine vp_callSi (W.runV (As := [.int _, .int _]) (rest := []) ⟨hx, hb, hml, hown, hts⟩ (c_X0_fact l dC dI g0 g1 cI h) (cwV 2 hts gX0_layInRows_X0_fact rfl rfl rfl (by decide +kernel) ⟨Nat.le_of_ble_eq_true rfl, Nat.le_of_ble_eq_true rfl⟩) ⟨fbR, va_recv hK hP (ci := 0) (q0 := 0) rfl rfl, fun U hU hW => ⟨rfl, by rw [hU]; exact hP, va_K.moved hW.alike hK⟩⟩ rfl rfl hl.1 rfl (lv_room (Nat.le_of_ble_eq_true rfl)) dX0_layInRows_40 ⟨Nat.zero_le _, Nat.zero_le _⟩) (fun r_9 h => ?_)
        refine lv_istore (lv' := [(10, .int r_9), (9, .int r_8), (0, .ref g0), (1, .int x1), (2, .int x2), (3, .int v3_1), (4, .int v4_2), (5, .int v5_3), (6, .int v6_4), (7, .int v7_5), (8, .int v8_6)]) hx hb dX0_layInRows_43 hl (by decide) rfl (fun ls hl => ?_)
        refine lv_iload hx hb dX0_layInRows_45 (lv_at hl 8 rfl) ?_
        refine lv_iload hx hb dX0_layInRows_47 (lv_at hl 1 rfl) ?_
        refine lv_iadd hx hb dX0_layInRows_49 ?_
        refine lv_iload_n hx hb dX0_layInRows_50 rfl (lv_at hl 3 rfl) ?_
        obtain ⟨J_83, hJi_83, h⟩ := jnE4 h
        have hJ_83 : ∀ (v3_12 : Int32) (v4_13 : Int32) (v5_14 : Int32) (v6_15 : Int32), J_83 v3_12 v4_13 v5_14 v6_15 → ∀ (H : Heap) (locs : List Loc), va_P (dC, dI) vwCl (wB g0 g1 cI u_7) H → va_S A s.heap H locs → ∀ (ls : Array Slot), lv_has ls 11 [(0, .ref g0), (1, .int x1), (2, .int x2), (3, .int v3_12), (4, .int v4_13), (5, .int v5_14), (6, .int v6_15), (7, .int v7_5), (8, .int v8_6), (9, .int r_8), (10, .int r_9)] → W p l e (headSpec wsX0_layInRows ({ frames := 2, cells := 0, slots := 0, locals := 44 } : Room)).room s m ([.ref g0, .int x1, .int x2] : List Value).toArray below meth c H locs 0 0 (MQ below (va_Qv post (fun (u2 : St) (t : State) => va_P (dC, dI) vwCl (wB g0 g1 cI u2) t.heap) A) ([.ref g0, .int x1, .int x2] : List Value).toArray s 0 0 A) (F0 m 83 ls []) := by
          intro v3_12 v4_13 v5_14 v6_15 h H locs hP hS ls hl
          have h := hJi_83 _ _ _ _ h
          refine lv_aload_n hx hb dX0_layInRows_83 rfl (lv_at hl 0 rfl) ?_
          refine lv_iload hx hb dX0_layInRows_84 (lv_at hl 8 rfl) ?_
          refine lv_iconst (v := 2) hx hb dX0_layInRows_86 (by decide) ?_
          refine lv_iload_n hx hb dX0_layInRows_87 rfl (lv_at hl 3 rfl) ?_
          have hFc := fr_all (ws := wB g0 g1 cI u_7) (hD u_7) hS hA
          refine va_callv (va_runV (As := [.int _, .int _, .int _]) (rest := []) ⟨hx, hb, hml, hown, hts⟩ (c_X0_note l dC dI g0 g1 cI (H).size h) (cwV 3 hts gX0_layInRows_X0_note rfl rfl rfl (by decide +kernel) ⟨Nat.le_of_ble_eq_true rfl, Nat.le_of_ble_eq_true rfl⟩) ⟨fbM, va_recv hK hP (ci := 0) (q0 := 0) rfl rfl, fun U hU hW => ⟨rfl, by rw [hU], by rw [hU]; exact hP, va_K.moved hW.alike hK, (hD u_7).weaken (fun _ _ _ _ => trivial)⟩⟩ rfl rfl hl.1 rfl (lv_room (Nat.le_of_ble_eq_true rfl)) dX0_layInRows_88 ⟨Nat.zero_le _, Nat.zero_le _⟩) hS (fun q _ h => hFc q h) hFc (fun u_17 t H locs ht _ h hP1 _ hk1 hS => ?_)
          have hP : va_P (dC, dI) vwCl (wB g0 g1 cI u_17) H := by rw [← ht]; exact hP1
          refine lv_aload_n hx hb dX0_layInRows_91 rfl (lv_at hl 0 rfl) ?_
          refine lv_iload hx hb dX0_layInRows_92 (lv_at hl 8 rfl) ?_
          refine lv_iconst (v := 3) hx hb dX0_layInRows_94 (by decide) ?_
          refine lv_iload hx hb dX0_layInRows_95 (lv_at hl 6 rfl) ?_
          have hFc := fr_all (ws := wB g0 g1 cI u_17) (hD u_17) hS hA
          refine va_callv (va_runV (As := [.int _, .int _, .int _]) (rest := []) ⟨hx, hb, hml, hown, hts⟩ (c_X0_note l dC dI g0 g1 cI (H).size h) (cwV 3 hts gX0_layInRows_X0_note rfl rfl rfl (by decide +kernel) ⟨Nat.le_of_ble_eq_true rfl, Nat.le_of_ble_eq_true rfl⟩) ⟨fbM, va_recv hK hP (ci := 0) (q0 := 0) rfl rfl, fun U hU hW => ⟨rfl, by rw [hU], by rw [hU]; exact hP, va_K.moved hW.alike hK, (hD u_17).weaken (fun _ _ _ _ => trivial)⟩⟩ rfl rfl hl.1 rfl (lv_room (Nat.le_of_ble_eq_true rfl)) dX0_layInRows_97 ⟨Nat.zero_le _, Nat.zero_le _⟩) hS (fun q _ h => hFc q h) hFc (fun u_19 t H locs ht _ h hP1 _ hk1 hS => ?_)
          have hP : va_P (dC, dI) vwCl (wB g0 g1 cI u_19) H := by rw [← ht]; exact hP1
          refine lv_aload_n hx hb dX0_layInRows_100 rfl (lv_at hl 0 rfl) ?_
          refine lv_iload hx hb dX0_layInRows_101 (lv_at hl 8 rfl) ?_
          refine lv_iconst (v := 4) hx hb dX0_layInRows_103 (by decide) ?_
          refine lv_iload hx hb dX0_layInRows_104 (lv_at hl 4 rfl) ?_
          have hFc := fr_all (ws := wB g0 g1 cI u_19) (hD u_19) hS hA
          refine va_callv (va_runV (As := [.int _, .int _, .int _]) (rest := []) ⟨hx, hb, hml, hown, hts⟩ (c_X0_note l dC dI g0 g1 cI (H).size h) (cwV 3 hts gX0_layInRows_X0_note rfl rfl rfl (by decide +kernel) ⟨Nat.le_of_ble_eq_true rfl, Nat.le_of_ble_eq_true rfl⟩) ⟨fbM, va_recv hK hP (ci := 0) (q0 := 0) rfl rfl, fun U hU hW => ⟨rfl, by rw [hU], by rw [hU]; exact hP, va_K.moved hW.alike hK, (hD u_19).weaken (fun _ _ _ _ => trivial)⟩⟩ rfl rfl hl.1 rfl (lv_room (Nat.le_of_ble_eq_true rfl)) dX0_layInRows_106 ⟨Nat.zero_le _, Nat.zero_le _⟩) hS (fun q _ h => hFc q h) hFc (fun u_21 t H locs ht _ h hP1 _ hk1 hS => ?_)
          have hP : va_P (dC, dI) vwCl (wB g0 g1 cI u_21) H := by rw [← ht]; exact hP1
          refine lv_iload hx hb dX0_layInRows_109 (lv_at hl 6 rfl) ?_
          refine lv_iload hx hb dX0_layInRows_111 (lv_at hl 9 rfl) ?_
          refine lv_iadd hx hb dX0_layInRows_113 ?_
          refine lv_topi (fun y_22 ey_22 => ?_)
          have h := h y_22 ey_22
          refine lv_istore (lv' := [(6, .int y_22), (0, .ref g0), (1, .int x1), (2, .int x2), (3, .int v3_12), (4, .int v4_13), (5, .int v5_14), (7, .int v7_5), (8, .int v8_6), (9, .int r_8), (10, .int r_9)]) hx hb dX0_layInRows_114 hl (by decide) rfl (fun ls hl => ?_)
          refine lv_iload hx hb dX0_layInRows_116 (lv_at hl 7 rfl) ?_
          refine lv_iload hx hb dX0_layInRows_118 (lv_at hl 9 rfl) ?_
          refine lv_iload hx hb dX0_layInRows_120 (lv_at hl 10 rfl) ?_
          refine lv_imul hx hb dX0_layInRows_122 ?_
          refine lv_iadd hx hb dX0_layInRows_123 ?_
          refine lv_topi (fun y_23 ey_23 => ?_)
          have h := h y_23 ey_23
          refine lv_istore (lv' := [(7, .int y_23), (6, .int y_22), (0, .ref g0), (1, .int x1), (2, .int x2), (3, .int v3_12), (4, .int v4_13), (5, .int v5_14), (8, .int v8_6), (9, .int r_8), (10, .int r_9)]) hx hb dX0_layInRows_124 hl (by decide) rfl (fun ls hl => ?_)
          obtain ⟨y_24, ey_24⟩ : ∃ z : Int32, z = v8_6 + (1 : Int32) := ⟨_, rfl⟩
          have h := h y_24 ey_24
          refine lv_iinc (v := y_24) (lv' := [(8, .int y_24), (7, .int y_23), (6, .int y_22), (0, .ref g0), (1, .int x1), (2, .int x2), (3, .int v3_12), (4, .int v4_13), (5, .int v5_14), (9, .int r_8), (10, .int r_9)]) hx hb dX0_layInRows_126 hl (k := 8) rfl (by rw [ey_24]; rfl) (by decide) rfl (fun ls hl => ?_)
          refine lv_goto (tgt := 17) hx hb dX0_layInRows_129 (by decide) ?_
          exact ih_17 _ _ _ _ _ _ _ h _ _ hP hS _ (lv_sub hl [3, 4, 5, 6, 7, 8, 2, 1, 0] rfl)
        refine lv_icmp_le (tgt := 83) hx hb dX0_layInRows_51 (by decide) (fun c_51 => ?_) (fun c_51 => ?_)
        · have h := br1 h c_51
          exact hJ_83 _ _ _ _ h _ _ hP hS _ (lv_sub hl [2, 3, 4, 5, 6, 7, 8, 9, 10, 1, 0] rfl)
        · have h := br2 h c_51
          refine lv_iconst (v := 0) hx hb dX0_layInRows_54 (by decide) ?_
          refine lv_istore (lv' := [(6, .int (0 : Int32)), (10, .int r_9), (9, .int r_8), (0, .ref g0), (1, .int x1), (2, .int x2), (3, .int v3_1), (4, .int v4_2), (5, .int v5_3), (7, .int v7_5), (8, .int v8_6)]) hx hb dX0_layInRows_55 hl (by decide) rfl (fun ls hl => ?_)
          refine lv_iload hx hb dX0_layInRows_57 (lv_at hl 7 rfl) ?_
          refine lv_iload hx hb dX0_layInRows_59 (lv_at hl 8 rfl) ?_
          refine lv_iadd hx hb dX0_layInRows_61 ?_
          refine lv_topi (fun y_10 ey_10 => ?_)
          have h := h y_10 ey_10
          refine lv_istore (lv' := [(4, .int y_10), (6, .int (0 : Int32)), (10, .int r_9), (9, .int r_8), (0, .ref g0), (1, .int x1), (2, .int x2), (3, .int v3_1), (5, .int v5_3), (7, .int v7_5), (8, .int v8_6)]) hx hb dX0_layInRows_62 hl (by decide) rfl (fun ls hl => ?_)
          refine lv_iload hx hb dX0_layInRows_64 (lv_at hl 2 rfl) ?_
          refine lv_istore (lv' := [(5, .int r_9), (4, .int y_10), (6, .int (0 : Int32)), (10, .int r_9), (9, .int r_8), (0, .ref g0), (1, .int x1), (2, .int x2), (3, .int v3_1), (7, .int v7_5), (8, .int v8_6)]) hx hb dX0_layInRows_66 hl (by decide) rfl (fun ls hl => ?_)
          refine lv_iload hx hb dX0_layInRows_68 (lv_at hl 1 rfl) ?_
          refine lv_iload hx hb dX0_layInRows_70 (lv_at hl 3 rfl) ?_
          refine lv_iadd hx hb dX0_layInRows_72 ?_
          refine lv_iload_n hx hb dX0_layInRows_73 rfl (lv_at hl 7 rfl) ?_
          refine lv_icmp_le (tgt := 83) hx hb dX0_layInRows_74 (by decide) (fun c_74 => ?_) (fun c_74 => ?_)
          · have h := br1 h c_74
            exact hJ_83 _ _ _ _ h _ _ hP hS _ (lv_sub hl [5, 6, 7, 8, 1, 0, 2, 9, 10, 4, 3] rfl)
          · have h := br2 h c_74
            refine lv_iconst (v := 0) hx hb dX0_layInRows_77 (by decide) ?_
            refine lv_istore (lv' := [(4, .int (0 : Int32)), (5, .int r_9), (6, .int (0 : Int32)), (10, .int r_9), (9, .int r_8), (0, .ref g0), (1, .int x1), (2, .int x2), (3, .int v3_1), (7, .int v7_5), (8, .int v8_6)]) hx hb dX0_layInRows_78 hl (by decide) rfl (fun ls hl => ?_)
            obtain ⟨y_11, ey_11⟩ : ∃ z : Int32, z = v3_1 + (1 : Int32) := ⟨_, rfl⟩
            have h := h y_11 ey_11
            refine lv_iinc (v := y_11) (lv' := [(3, .int y_11), (4, .int (0 : Int32)), (5, .int r_9), (6, .int (0 : Int32)), (10, .int r_9), (9, .int r_8), (0, .ref g0), (1, .int x1), (2, .int x2), (7, .int v7_5), (8, .int v8_6)]) hx hb dX0_layInRows_80 hl (k := 8) rfl (by rw [ey_11]; rfl) (by decide) rfl (fun ls hl => ?_)
            exact hJ_83 _ _ _ _ h _ _ hP hS _ (lv_sub hl [6, 7, 8, 0, 1, 2, 3, 9, 10, 5, 4] rfl)
  exact loop_17 n _ _ _ _ _ _ _ h _ _ hP hS _ (lv_sub hl [6, 7, 8, 5, 4, 3, 2, 1, 0] rfl)
