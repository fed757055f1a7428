set_option maxHeartbeats 4000000 in
set_option maxRecDepth 100000 in
theorem c_X5_replaceArrow (l : Launch) (D : va_G) (cc : Nat → ClassId) (A : Nat → Prop) (ad : Nat → Nat) (rs : va_W) (x1 : Int32) (x2 : Int32) (μ : Mem) (K : Int32 → Mem → Prop) (h : f_X5_replaceArrow x1 x2 μ K) : Met l yX5_replaceArrow wsX5_replaceArrow ({ frames := 0, cells := 0, slots := 0, locals := 0 }) (va_Pc [.ref (ad 0), .int x1, .int x2] (PW shX 67 D cc A ad rs μ)) (va_Qi K (PW shX 67 D cc A ad rs) A) 0 0 A := by
  refine Met.ofW (cc := cX5_replaceArrow) (maxL := 4) (ret := (some .int)) (by decide) rfl ?_
  intro p e s m args below meth c s₁ BB hml hv
  obtain ⟨rfl, hP, hK, hD, hN⟩ := hv
  have hx := BB.exec
  have hb := BB.bytes
  have hr := BB.returns
  have hts := atoms_spec (ws := wsX5_replaceArrow) BB.pre
  have hown : s.vm.findClass RX5 = some m.cls := findClass_of_methodNamed BB.named
  have hlocks := BB.notSynchronized
  have hi_X5 : ∀ w ∈ u_ws RX5 TX5 12, w ∈ wsX5_replaceArrow := by decide +kernel
  have hi_X2 : ∀ w ∈ u_ws RX2 TX2 7, w ∈ wsX5_replaceArrow := by decide +kernel
  have hw0 := hts (.fieldLink RX5 12 "FeatureClashes" "setup" "LFeatureClashes$Setup;") (by decide +kernel)
  have hw1 := hts (.fieldLink RX5 96 "FeatureClashes$Setup" "base" "[I") (by decide +kernel)
  have hS : va_S A s.heap s.heap [] := va_S.rf
  have hl := lv_entry ([.ref (ad 0), .int x1, .int x2]) (n := 4) (Nat.le_of_ble_eq_true rfl)
  rw [lg_entry_eq]
  generalize (lg_sl ([.ref (ad 0), .int x1, .int x2]) ++ List.replicate (4 - (lg_sl ([.ref (ad 0), .int x1, .int x2])).length) Slot.unset).toArray = ls at hl ⊢
  have hl : lv_has ls 4 [(0, .ref (ad 0)), (1, .int x1), (2, .int x2)] := hl
  unfold f_X5_replaceArrow at h
  refine lv_aload_n hx hb dX5_replaceArrow_0 rfl (lv_at hl 0 rfl) ?_
  refine zw_get (C := RX5) (T := TX5) (M := 12) (v := .ref (ad 1)) hx hb hts hi_X5 hown hK hP kX_0 rfl 0 (by decide) hw0 rfl dX5_replaceArrow_1 ?_
  refine zw_get (C := RX2) (T := TX2) (M := 7) (v := .ref (ad 2)) hx hb hts hi_X2 hown hK hP (oS sS1) rfl 4 (by decide) hw1 rfl dX5_replaceArrow_4 ?_
  refine lv_iload_n hx hb dX5_replaceArrow_7 rfl (lv_at hl 1 rfl) ?_
  obtain ⟨hi1, h⟩ := h
  refine zw_iald hx hb hK hP (iS1 sS1) hi1 dX5_replaceArrow_8 ?_
  refine lv_topi (fun y2 ey2 => ?_)
  have h := h y2 ey2
  refine lv_istore_n (lv' := [(3, .int y2), (0, .ref (ad 0)), (1, .int x1), (2, .int x2)]) hx hb dX5_replaceArrow_9 rfl hl (by decide) rfl (fun ls hl => ?_)
  refine lv_aload_n hx hb dX5_replaceArrow_10 rfl (lv_at hl 1 rfl) ?_
  refine zw_get (C := RX5) (T := TX5) (M := 12) (v := .ref (ad 1)) hx hb hts hi_X5 hown hK hP kX_0 rfl 0 (by decide) hw0 rfl dX5_replaceArrow_11 ?_
  refine zw_get (C := RX2) (T := TX2) (M := 7) (v := .ref (ad 2)) hx hb hts hi_X2 hown hK hP (oS sS1) rfl 4 (by decide) hw1 rfl dX5_replaceArrow_14 ?_
  refine lv_iload_n hx hb dX5_replaceArrow_17 rfl (lv_at hl 2 rfl) ?_
  refine lv_iload_n hx hb dX5_replaceArrow_18 rfl (lv_at hl 3 rfl) ?_
  obtain ⟨hi3, h⟩ := h
  refine zw_iast hx hb hK hP hD hS (iS1 sS1) hi3 dX5_replaceArrow_19 (fun μ4 H locs eμ4 hP hD hS => ?_)
  have h := h μ4 eμ4
  refine lv_iload_n hx hb dX5_replaceArrow_20 rfl (lv_at hl 0 rfl) ?_
  refine lv_iconst (v := (-1)) hx hb dX5_replaceArrow_21 (by decide) ?_
  refine lv_icmp_ne (tgt := 30) hx hb dX5_replaceArrow_22 (by decide) (fun c5 => ?_) (fun c5 => ?_)
  · have h := h.1 c5
    refine lv_iload_n hx hb dX5_replaceArrow_30 rfl (lv_at hl 0 rfl) ?_
    exact W.iret (v := y2) hx hb hr (fun t ht hW => ⟨⟨y2, μ4, rfl, h, PW.to hK hN hP hD t ht hW⟩, hS.F ht⟩) hS.2.2 dX5_replaceArrow_31
  · have h := h.2 c5
    refine lv_bipush (v := (-5)) hx hb dX5_replaceArrow_25 (by decide) ?_
    refine lv_goto (tgt := 31) hx hb dX5_replaceArrow_27 (by decide) ?_
    exact W.iret (v := (-5)) hx hb hr (fun t ht hW => ⟨⟨(-5), μ4, rfl, h, PW.to hK hN hP hD t ht hW⟩, hS.F ht⟩) hS.2.2 dX5_replaceArrow_31
set_option maxHeartbeats 4000000 in
set_option maxRecDepth 100000 in
theorem c_X5_setArrow (l : Launch) (D : va_G) (cc : Nat → ClassId) (A : Nat → Prop) (ad : Nat → Nat) (rs : va_W) (x1 : Int32) (x2 : Int32) (x3 : Int32) (x4 : Int32) (μ : Mem) (K : Int32 → Mem → Prop) (h : f_X5_setArrow x1 x2 x3 x4 μ K) : Met l yX5_setArrow wsX5_setArrow ({ frames := 2, cells := 0, slots := 0, locals := 43 }) (va_Pc [.ref (ad 0), .int x1, .int x2, .int x3, .int x4] (PW shX 67 D cc A ad rs μ)) (va_Qi K (PW shX 67 D cc A ad rs) A) 0 0 A := by
  refine Met.ofW (cc := cX5_setArrow) (maxL := 5) (ret := (some .int)) (by decide) rfl ?_
  intro p e s m args below meth c s₁ BB hml hv
  obtain ⟨rfl, hP, hK, hD, hN⟩ := hv
  have hx := BB.exec
  have hb := BB.bytes
  have hr := BB.returns
  have hts := atoms_spec (ws := wsX5_setArrow) BB.pre
  have hown : s.vm.findClass RX5 = some m.cls := findClass_of_methodNamed BB.named
  have hlocks := BB.notSynchronized
  have hi_X5 : ∀ w ∈ u_ws RX5 TX5 12, w ∈ wsX5_setArrow := by decide +kernel
  have hw0 := hts (.fieldLink RX5 12 "FeatureClashes" "setup" "LFeatureClashes$Setup;") (by decide +kernel)
  have hS : va_S A s.heap s.heap [] := va_S.rf
  have hl := lv_entry ([.ref (ad 0), .int x1, .int x2, .int x3, .int x4]) (n := 5) (Nat.le_of_ble_eq_true rfl)
  rw [lg_entry_eq]
  generalize (lg_sl ([.ref (ad 0), .int x1, .int x2, .int x3, .int x4]) ++ List.replicate (5 - (lg_sl ([.ref (ad 0), .int x1, .int x2, .int x3, .int x4])).length) Slot.unset).toArray = ls at hl ⊢
  have hl : lv_has ls 5 [(0, .ref (ad 0)), (1, .int x1), (2, .int x2), (3, .int x3), (4, .int x4)] := hl
  unfold f_X5_setArrow at h
  refine lv_aload_n hx hb dX5_setArrow_0 rfl (lv_at hl 0 rfl) ?_
  refine zw_get (C := RX5) (T := TX5) (M := 12) (v := .ref (ad 1)) hx hb hts hi_X5 hown hK hP kX_0 rfl 0 (by decide) hw0 rfl dX5_setArrow_1 ?_
  refine lv_iload_n hx hb dX5_setArrow_4 rfl (lv_at hl 1 rfl) ?_
  refine lv_iload_n hx hb dX5_setArrow_5 rfl (lv_at hl 2 rfl) ?_
  refine zc_i (zc_runV (As := [.int x1, .int x2]) (rest := []) ⟨hx, hb, hml, hown, hts⟩ (c_X2_hasCell l D cc A ad rs 1 sS1 x1 x2 μ _ h) (cwV 2 hts gX5_setArrow_X2_hasCell rfl rfl rfl (by decide +kernel) ⟨Nat.le_of_ble_eq_true rfl, Nat.le_of_ble_eq_true rfl⟩) (oS sS1) rfl hK hN hP hD rfl hl.1 rfl (Nat.le_of_ble_eq_true rfl) dX5_setArrow_6 ⟨Nat.zero_le _, Nat.zero_le _⟩) hS (fun r1 μ2 H locs h hP hD hS => ?_)
  refine lv_if_eq (tgt := 23) hx hb dX5_setArrow_9 (by decide) (fun c3 => ?_) (fun c3 => ?_)
  · have h := h.1 c3
    refine lv_iconst (v := (-1)) hx hb dX5_setArrow_23 (by decide) ?_
    exact W.iret (v := (-1)) hx hb hr (fun t ht hW => ⟨⟨(-1), μ2, rfl, h, PW.to hK hN hP hD t ht hW⟩, hS.F ht⟩) hS.2.2 dX5_setArrow_24
  · have h := h.2 c3
    refine lv_aload_n hx hb dX5_setArrow_12 rfl (lv_at hl 0 rfl) ?_
    refine zw_get (C := RX5) (T := TX5) (M := 12) (v := .ref (ad 1)) hx hb hts hi_X5 hown hK hP kX_0 rfl 0 (by decide) hw0 rfl dX5_setArrow_13 ?_
    refine lv_iload_n hx hb dX5_setArrow_16 rfl (lv_at hl 3 rfl) ?_
    refine zc_i (zc_runV (As := [.int x3]) (rest := []) ⟨hx, hb, hml, hown, hts⟩ (c_X2_hasState l D cc A ad rs 1 sS1 x3 μ2 _ h) (cwV 1 hts gX5_setArrow_X2_hasState rfl rfl rfl (by decide +kernel) ⟨Nat.le_of_ble_eq_true rfl, Nat.le_of_ble_eq_true rfl⟩) (oS sS1) rfl hK hN hP hD rfl hl.1 rfl (Nat.le_of_ble_eq_true rfl) dX5_setArrow_17 ⟨Nat.zero_le _, Nat.zero_le _⟩) hS (fun r4 μ5 H locs h hP hD hS => ?_)
    refine lv_if_ne (tgt := 25) hx hb dX5_setArrow_20 (by decide) (fun c6 => ?_) (fun c6 => ?_)
    · have h := h.1 c6
      refine lv_iload hx hb dX5_setArrow_25 (lv_at hl 4 rfl) ?_
      refine zc_i (zc_runS (As := [.int x4]) (rest := []) ⟨hx, hb, hml, hown, hts⟩ (c_X5_isOutput l D cc A ad rs x4 μ5 _ h) (va_cwS 1 hts gX5_setArrow_X5_isOutput rfl rfl rfl (by decide +kernel) ⟨Nat.le_of_ble_eq_true rfl, Nat.le_of_ble_eq_true rfl⟩) hK hN hP hD rfl hl.1 rfl (Nat.le_of_ble_eq_true rfl) dX5_setArrow_27 ⟨Nat.zero_le _, Nat.zero_le _⟩) hS (fun r7 μ8 H locs h hP hD hS => ?_)
      refine lv_if_ne (tgt := 36) hx hb dX5_setArrow_30 (by decide) (fun c9 => ?_) (fun c9 => ?_)
      · have h := h.1 c9
        refine lv_aload_n hx hb dX5_setArrow_36 rfl (lv_at hl 0 rfl) ?_
        refine lv_iload_n hx hb dX5_setArrow_37 rfl (lv_at hl 1 rfl) ?_
        refine lv_iload_n hx hb dX5_setArrow_38 rfl (lv_at hl 2 rfl) ?_
        refine zc_i (zc_runS (As := [.int x1, .int x2]) (rest := [.ref (ad 0)]) ⟨hx, hb, hml, hown, hts⟩ (c_X5_cellOf l D cc A ad rs x1 x2 μ8 _ h) (va_cwS 2 hts gX5_setArrow_X5_cellOf rfl rfl rfl (by decide +kernel) ⟨Nat.le_of_ble_eq_true rfl, Nat.le_of_ble_eq_true rfl⟩) hK hN hP hD rfl hl.1 rfl (Nat.le_of_ble_eq_true rfl) dX5_setArrow_39 ⟨Nat.zero_le _, Nat.zero_le _⟩) hS (fun r10 μ11 H locs h hP hD hS => ?_)
        refine lv_iload_n hx hb dX5_setArrow_42 rfl (lv_at hl 3 rfl) ?_
        refine lv_iload hx hb dX5_setArrow_43 (lv_at hl 4 rfl) ?_
        refine zc_i (zc_runS (As := [.int x3, .int x4]) (rest := [.int r10, .ref (ad 0)]) ⟨hx, hb, hml, hown, hts⟩ (c_X5_arrowOf l D cc A ad rs x3 x4 μ11 _ h) (va_cwS 2 hts gX5_setArrow_X5_arrowOf rfl rfl rfl (by decide +kernel) ⟨Nat.le_of_ble_eq_true rfl, Nat.le_of_ble_eq_true rfl⟩) hK hN hP hD rfl hl.1 rfl (Nat.le_of_ble_eq_true rfl) dX5_setArrow_45 ⟨Nat.zero_le _, Nat.zero_le _⟩) hS (fun r12 μ13 H locs h hP hD hS => ?_)
        refine zc_i (zc_runV (As := [.int r10, .int r12]) (rest := []) ⟨hx, hb, hml, hown, hts⟩ (c_X5_replaceArrow l D cc A ad rs r10 r12 μ13 _ h) (cwV 2 hts gX5_setArrow_X5_replaceArrow rfl rfl rfl (by decide +kernel) ⟨Nat.le_of_ble_eq_true rfl, Nat.le_of_ble_eq_true rfl⟩) kX_0 rfl hK hN hP hD rfl hl.1 rfl (Nat.le_of_ble_eq_true rfl) dX5_setArrow_48 ⟨Nat.zero_le _, Nat.zero_le _⟩) hS (fun r14 μ15 H locs h hP hD hS => ?_)
        exact W.iret (v := r14) hx hb hr (fun t ht hW => ⟨⟨r14, μ15, rfl, h, PW.to hK hN hP hD t ht hW⟩, hS.F ht⟩) hS.2.2 dX5_setArrow_51
      · have h := h.2 c9
        refine lv_bipush (v := (-2)) hx hb dX5_setArrow_33 (by decide) ?_
        exact W.iret (v := (-2)) hx hb hr (fun t ht hW => ⟨⟨(-2), μ8, rfl, h, PW.to hK hN hP hD t ht hW⟩, hS.F ht⟩) hS.2.2 dX5_setArrow_35
    · have h := h.2 c6
      refine lv_iconst (v := (-1)) hx hb dX5_setArrow_23 (by decide) ?_
      exact W.iret (v := (-1)) hx hb hr (fun t ht hW => ⟨⟨(-1), μ5, rfl, h, PW.to hK hN hP hD t ht hW⟩, hS.F ht⟩) hS.2.2 dX5_setArrow_24
set_option maxHeartbeats 4000000 in
set_option maxRecDepth 100000 in
theorem c_X5_removeArrow (l : Launch) (D : va_G) (cc : Nat → ClassId) (A : Nat → Prop) (ad : Nat → Nat) (rs : va_W) (x1 : Int32) (x2 : Int32) (μ : Mem) (K : Int32 → Mem → Prop) (h : f_X5_removeArrow x1 x2 μ K) : Met l yX5_removeArrow wsX5_removeArrow ({ frames := 2, cells := 0, slots := 0, locals := 43 }) (va_Pc [.ref (ad 0), .int x1, .int x2] (PW shX 67 D cc A ad rs μ)) (va_Qi K (PW shX 67 D cc A ad rs) A) 0 0 A := by
  refine Met.ofW (cc := cX5_removeArrow) (maxL := 3) (ret := (some .int)) (by decide) rfl ?_
  intro p e s m args below meth c s₁ BB hml hv
  obtain ⟨rfl, hP, hK, hD, hN⟩ := hv
  have hx := BB.exec
  have hb := BB.bytes
  have hr := BB.returns
  have hts := atoms_spec (ws := wsX5_removeArrow) BB.pre
  have hown : s.vm.findClass RX5 = some m.cls := findClass_of_methodNamed BB.named
  have hlocks := BB.notSynchronized
  have hi_X5 : ∀ w ∈ u_ws RX5 TX5 12, w ∈ wsX5_removeArrow := by decide +kernel
  have hw0 := hts (.fieldLink RX5 12 "FeatureClashes" "setup" "LFeatureClashes$Setup;") (by decide +kernel)
  have hS : va_S A s.heap s.heap [] := va_S.rf
  have hl := lv_entry ([.ref (ad 0), .int x1, .int x2]) (n := 3) (Nat.le_of_ble_eq_true rfl)
  rw [lg_entry_eq]
  generalize (lg_sl ([.ref (ad 0), .int x1, .int x2]) ++ List.replicate (3 - (lg_sl ([.ref (ad 0), .int x1, .int x2])).length) Slot.unset).toArray = ls at hl ⊢
  have hl : lv_has ls 3 [(0, .ref (ad 0)), (1, .int x1), (2, .int x2)] := hl
  unfold f_X5_removeArrow at h
  refine lv_aload_n hx hb dX5_removeArrow_0 rfl (lv_at hl 0 rfl) ?_
  refine zw_get (C := RX5) (T := TX5) (M := 12) (v := .ref (ad 1)) hx hb hts hi_X5 hown hK hP kX_0 rfl 0 (by decide) hw0 rfl dX5_removeArrow_1 ?_
  refine lv_iload_n hx hb dX5_removeArrow_4 rfl (lv_at hl 1 rfl) ?_
  refine lv_iload_n hx hb dX5_removeArrow_5 rfl (lv_at hl 2 rfl) ?_
  refine zc_i (zc_runV (As := [.int x1, .int x2]) (rest := []) ⟨hx, hb, hml, hown, hts⟩ (c_X2_hasCell l D cc A ad rs 1 sS1 x1 x2 μ _ h) (cwV 2 hts gX5_removeArrow_X2_hasCell rfl rfl rfl (by decide +kernel) ⟨Nat.le_of_ble_eq_true rfl, Nat.le_of_ble_eq_true rfl⟩) (oS sS1) rfl hK hN hP hD rfl hl.1 rfl (Nat.le_of_ble_eq_true rfl) dX5_removeArrow_6 ⟨Nat.zero_le _, Nat.zero_le _⟩) hS (fun r1 μ2 H locs h hP hD hS => ?_)
  refine lv_if_ne (tgt := 14) hx hb dX5_removeArrow_9 (by decide) (fun c3 => ?_) (fun c3 => ?_)
  · have h := h.1 c3
    refine lv_aload_n hx hb dX5_removeArrow_14 rfl (lv_at hl 0 rfl) ?_
    refine lv_iload_n hx hb dX5_removeArrow_15 rfl (lv_at hl 1 rfl) ?_
    refine lv_iload_n hx hb dX5_removeArrow_16 rfl (lv_at hl 2 rfl) ?_
    refine zc_i (zc_runS (As := [.int x1, .int x2]) (rest := [.ref (ad 0)]) ⟨hx, hb, hml, hown, hts⟩ (c_X5_cellOf l D cc A ad rs x1 x2 μ2 _ h) (va_cwS 2 hts gX5_removeArrow_X5_cellOf rfl rfl rfl (by decide +kernel) ⟨Nat.le_of_ble_eq_true rfl, Nat.le_of_ble_eq_true rfl⟩) hK hN hP hD rfl hl.1 rfl (Nat.le_of_ble_eq_true rfl) dX5_removeArrow_17 ⟨Nat.zero_le _, Nat.zero_le _⟩) hS (fun r4 μ5 H locs h hP hD hS => ?_)
    refine lv_iconst (v := (-1)) hx hb dX5_removeArrow_20 (by decide) ?_
    refine zc_i (zc_runV (As := [.int r4, .int (-1)]) (rest := []) ⟨hx, hb, hml, hown, hts⟩ (c_X5_replaceArrow l D cc A ad rs r4 (-1) μ5 _ h) (cwV 2 hts gX5_removeArrow_X5_replaceArrow rfl rfl rfl (by decide +kernel) ⟨Nat.le_of_ble_eq_true rfl, Nat.le_of_ble_eq_true rfl⟩) kX_0 rfl hK hN hP hD rfl hl.1 rfl (Nat.le_of_ble_eq_true rfl) dX5_removeArrow_21 ⟨Nat.zero_le _, Nat.zero_le _⟩) hS (fun r6 μ7 H locs h hP hD hS => ?_)
    exact W.iret (v := r6) hx hb hr (fun t ht hW => ⟨⟨r6, μ7, rfl, h, PW.to hK hN hP hD t ht hW⟩, hS.F ht⟩) hS.2.2 dX5_removeArrow_24
  · have h := h.2 c3
    refine lv_iconst (v := (-1)) hx hb dX5_removeArrow_12 (by decide) ?_
    exact W.iret (v := (-1)) hx hb hr (fun t ht hW => ⟨⟨(-1), μ2, rfl, h, PW.to hK hN hP hD t ht hW⟩, hS.F ht⟩) hS.2.2 dX5_removeArrow_13
set_option maxHeartbeats 4000000 in
set_option maxRecDepth 100000 in
theorem c_X5_addFeature (l : Launch) (D : va_G) (cc : Nat → ClassId) (A : Nat → Prop) (ad : Nat → Nat) (rs : va_W)  (μ : Mem) (K : Int32 → Mem → Prop) (h : f_X5_addFeature  μ K) : Met l yX5_addFeature wsX5_addFeature ({ frames := 2, cells := 0, slots := 0, locals := 44 }) (va_Pc [.ref (ad 0)] (PW shX 67 D cc A ad rs μ)) (va_Qi K (PW shX 67 D cc A ad rs) A) 0 0 A := by
  refine Met.ofW (cc := cX5_addFeature) (maxL := 1) (ret := (some .int)) (by decide) rfl ?_
  intro p e s m args below meth c s₁ BB hml hv
  obtain ⟨rfl, hP, hK, hD, hN⟩ := hv
  have hx := BB.exec
  have hb := BB.bytes
  have hr := BB.returns
  have hts := atoms_spec (ws := wsX5_addFeature) BB.pre
  have hown : s.vm.findClass RX5 = some m.cls := findClass_of_methodNamed BB.named
  have hlocks := BB.notSynchronized
  have hi_X5 : ∀ w ∈ u_ws RX5 TX5 12, w ∈ wsX5_addFeature := by decide +kernel
  have hi_X2 : ∀ w ∈ u_ws RX2 TX2 7, w ∈ wsX5_addFeature := by decide +kernel
  have hw0 := hts (.fieldLink RX5 12 "FeatureClashes" "setup" "LFeatureClashes$Setup;") (by decide +kernel)
  have hw1 := hts (.fieldLink RX5 99 "FeatureClashes$Setup" "featureCount" "I") (by decide +kernel)
  have hS : va_S A s.heap s.heap [] := va_S.rf
  have hl := lv_entry ([.ref (ad 0)]) (n := 1) (Nat.le_of_ble_eq_true rfl)
  rw [lg_entry_eq]
  generalize (lg_sl ([.ref (ad 0)]) ++ List.replicate (1 - (lg_sl ([.ref (ad 0)])).length) Slot.unset).toArray = ls at hl ⊢
  have hl : lv_has ls 1 [(0, .ref (ad 0))] := hl
  unfold f_X5_addFeature at h
  refine lv_aload_n hx hb dX5_addFeature_0 rfl (lv_at hl 0 rfl) ?_
  refine zw_get (C := RX5) (T := TX5) (M := 12) (v := .ref (ad 1)) hx hb hts hi_X5 hown hK hP kX_0 rfl 0 (by decide) hw0 rfl dX5_addFeature_1 ?_
  refine zw_get (C := RX2) (T := TX2) (M := 7) (v := .int (μ.1 1 2)) hx hb hts hi_X2 hown hK hP (oS sS1) rfl 2 (by decide) hw1 rfl dX5_addFeature_4 ?_
  refine lv_bipush (v := 6) hx hb dX5_addFeature_7 (by decide) ?_
  refine lv_icmp_lt (tgt := 15) hx hb dX5_addFeature_9 (by decide) (fun c1 => ?_) (fun c1 => ?_)
  · have h := h.1 c1
    refine lv_aload_n hx hb dX5_addFeature_15 rfl (lv_at hl 0 rfl) ?_
    refine zw_get (C := RX5) (T := TX5) (M := 12) (v := .ref (ad 1)) hx hb hts hi_X5 hown hK hP kX_0 rfl 0 (by decide) hw0 rfl dX5_addFeature_16 ?_
    refine zc_i (zc_runV (As := []) (rest := []) ⟨hx, hb, hml, hown, hts⟩ (c_X2_makeFeature l D cc A ad rs 1 sS1 μ _ h) (cwV 0 hts gX5_addFeature_X2_makeFeature rfl rfl rfl (by decide +kernel) ⟨Nat.le_of_ble_eq_true rfl, Nat.le_of_ble_eq_true rfl⟩) (oS sS1) rfl hK hN hP hD rfl hl.1 rfl (Nat.le_of_ble_eq_true rfl) dX5_addFeature_19 ⟨Nat.zero_le _, Nat.zero_le _⟩) hS (fun r2 μ3 H locs h hP hD hS => ?_)
    exact W.iret (v := r2) hx hb hr (fun t ht hW => ⟨⟨r2, μ3, rfl, h, PW.to hK hN hP hD t ht hW⟩, hS.F ht⟩) hS.2.2 dX5_addFeature_22
  · have h := h.2 c1
    refine lv_bipush (v := (-4)) hx hb dX5_addFeature_12 (by decide) ?_
    exact W.iret (v := (-4)) hx hb hr (fun t ht hW => ⟨⟨(-4), μ, rfl, h, PW.to hK hN hP hD t ht hW⟩, hS.F ht⟩) hS.2.2 dX5_addFeature_14
set_option maxHeartbeats 4000000 in
set_option maxRecDepth 100000 in
theorem c_X5_change (l : Launch) (D : va_G) (cc : Nat → ClassId) (A : Nat → Prop) (ad : Nat → Nat) (rs : va_W) (x1 : Int32) (x2 : Int32) (x3 : Int32) (x4 : Int32) (x5 : Int32) (μ : Mem) (K : Int32 → Mem → Prop) (h : f_X5_change x1 x2 x3 x4 x5 μ K) : Met l yX5_change wsX5_change ({ frames := 2, cells := 0, slots := 0, locals := 43 }) (va_Pc [.ref (ad 0), .int x1, .int x2, .int x3, .int x4, .int x5] (PW shX 67 D cc A ad rs μ)) (va_Qi K (PW shX 67 D cc A ad rs) A) 0 0 A := by
  refine Met.ofW (cc := cX5_change) (maxL := 6) (ret := (some .int)) (by decide) rfl ?_
  intro p e s m args below meth c s₁ BB hml hv
  obtain ⟨rfl, hP, hK, hD, hN⟩ := hv
  have hx := BB.exec
  have hb := BB.bytes
  have hr := BB.returns
  have hts := atoms_spec (ws := wsX5_change) BB.pre
  have hown : s.vm.findClass RX5 = some m.cls := findClass_of_methodNamed BB.named
  have hlocks := BB.notSynchronized
  have hi_X5 : ∀ w ∈ u_ws RX5 TX5 12, w ∈ wsX5_change := by decide +kernel
  have hi_X2 : ∀ w ∈ u_ws RX2 TX2 7, w ∈ wsX5_change := by decide +kernel
  have hw0 := hts (.fieldLink RX5 12 "FeatureClashes" "setup" "LFeatureClashes$Setup;") (by decide +kernel)
  have hw1 := hts (.fieldLink RX5 109 "FeatureClashes$Setup" "edits" "[[I") (by decide +kernel)
  have hS : va_S A s.heap s.heap [] := va_S.rf
  have hl := lv_entry ([.ref (ad 0), .int x1, .int x2, .int x3, .int x4, .int x5]) (n := 6) (Nat.le_of_ble_eq_true rfl)
  rw [lg_entry_eq]
  generalize (lg_sl ([.ref (ad 0), .int x1, .int x2, .int x3, .int x4, .int x5]) ++ List.replicate (6 - (lg_sl ([.ref (ad 0), .int x1, .int x2, .int x3, .int x4, .int x5])).length) Slot.unset).toArray = ls at hl ⊢
  have hl : lv_has ls 6 [(0, .ref (ad 0)), (1, .int x1), (2, .int x2), (3, .int x3), (4, .int x4), (5, .int x5)] := hl
  unfold f_X5_change at h
  refine lv_aload_n hx hb dX5_change_0 rfl (lv_at hl 0 rfl) ?_
  refine zw_get (C := RX5) (T := TX5) (M := 12) (v := .ref (ad 1)) hx hb hts hi_X5 hown hK hP kX_0 rfl 0 (by decide) hw0 rfl dX5_change_1 ?_
  refine lv_iload_n hx hb dX5_change_4 rfl (lv_at hl 1 rfl) ?_
  refine zc_i (zc_runV (As := [.int x1]) (rest := []) ⟨hx, hb, hml, hown, hts⟩ (c_X2_hasFeature l D cc A ad rs 1 sS1 x1 μ _ h) (cwV 1 hts gX5_change_X2_hasFeature rfl rfl rfl (by decide +kernel) ⟨Nat.le_of_ble_eq_true rfl, Nat.le_of_ble_eq_true rfl⟩) (oS sS1) rfl hK hN hP hD rfl hl.1 rfl (Nat.le_of_ble_eq_true rfl) dX5_change_5 ⟨Nat.zero_le _, Nat.zero_le _⟩) hS (fun r1 μ2 H locs h hP hD hS => ?_)
  refine lv_if_eq (tgt := 35) hx hb dX5_change_8 (by decide) (fun c3 => ?_) (fun c3 => ?_)
  · have h := h.1 c3
    refine lv_iconst (v := (-1)) hx hb dX5_change_35 (by decide) ?_
    exact W.iret (v := (-1)) hx hb hr (fun t ht hW => ⟨⟨(-1), μ2, rfl, h, PW.to hK hN hP hD t ht hW⟩, hS.F ht⟩) hS.2.2 dX5_change_36
  · have h := h.2 c3
    refine lv_aload_n hx hb dX5_change_11 rfl (lv_at hl 0 rfl) ?_
    refine zw_get (C := RX5) (T := TX5) (M := 12) (v := .ref (ad 1)) hx hb hts hi_X5 hown hK hP kX_0 rfl 0 (by decide) hw0 rfl dX5_change_12 ?_
    refine lv_iload_n hx hb dX5_change_15 rfl (lv_at hl 2 rfl) ?_
    refine lv_iload_n hx hb dX5_change_16 rfl (lv_at hl 3 rfl) ?_
    refine zc_i (zc_runV (As := [.int x2, .int x3]) (rest := []) ⟨hx, hb, hml, hown, hts⟩ (c_X2_hasCell l D cc A ad rs 1 sS1 x2 x3 μ2 _ h) (cwV 2 hts gX5_change_X2_hasCell rfl rfl rfl (by decide +kernel) ⟨Nat.le_of_ble_eq_true rfl, Nat.le_of_ble_eq_true rfl⟩) (oS sS1) rfl hK hN hP hD rfl hl.1 rfl (Nat.le_of_ble_eq_true rfl) dX5_change_17 ⟨Nat.zero_le _, Nat.zero_le _⟩) hS (fun r4 μ5 H locs h hP hD hS => ?_)
    refine lv_if_eq (tgt := 35) hx hb dX5_change_20 (by decide) (fun c6 => ?_) (fun c6 => ?_)
    · have h := h.1 c6
      refine lv_iconst (v := (-1)) hx hb dX5_change_35 (by decide) ?_
      exact W.iret (v := (-1)) hx hb hr (fun t ht hW => ⟨⟨(-1), μ5, rfl, h, PW.to hK hN hP hD t ht hW⟩, hS.F ht⟩) hS.2.2 dX5_change_36
    · have h := h.2 c6
      refine lv_aload_n hx hb dX5_change_23 rfl (lv_at hl 0 rfl) ?_
      refine zw_get (C := RX5) (T := TX5) (M := 12) (v := .ref (ad 1)) hx hb hts hi_X5 hown hK hP kX_0 rfl 0 (by decide) hw0 rfl dX5_change_24 ?_
      refine lv_iload hx hb dX5_change_27 (lv_at hl 4 rfl) ?_
      refine zc_i (zc_runV (As := [.int x4]) (rest := []) ⟨hx, hb, hml, hown, hts⟩ (c_X2_hasState l D cc A ad rs 1 sS1 x4 μ5 _ h) (cwV 1 hts gX5_change_X2_hasState rfl rfl rfl (by decide +kernel) ⟨Nat.le_of_ble_eq_true rfl, Nat.le_of_ble_eq_true rfl⟩) (oS sS1) rfl hK hN hP hD rfl hl.1 rfl (Nat.le_of_ble_eq_true rfl) dX5_change_29 ⟨Nat.zero_le _, Nat.zero_le _⟩) hS (fun r7 μ8 H locs h hP hD hS => ?_)
      refine lv_if_ne (tgt := 37) hx hb dX5_change_32 (by decide) (fun c9 => ?_) (fun c9 => ?_)
      · have h := h.1 c9
        refine lv_iload hx hb dX5_change_37 (lv_at hl 5 rfl) ?_
        refine zc_i (zc_runS (As := [.int x5]) (rest := []) ⟨hx, hb, hml, hown, hts⟩ (c_X5_isOutput l D cc A ad rs x5 μ8 _ h) (va_cwS 1 hts gX5_change_X5_isOutput rfl rfl rfl (by decide +kernel) ⟨Nat.le_of_ble_eq_true rfl, Nat.le_of_ble_eq_true rfl⟩) hK hN hP hD rfl hl.1 rfl (Nat.le_of_ble_eq_true rfl) dX5_change_39 ⟨Nat.zero_le _, Nat.zero_le _⟩) hS (fun r10 μ11 H locs h hP hD hS => ?_)
        refine lv_if_ne (tgt := 48) hx hb dX5_change_42 (by decide) (fun c12 => ?_) (fun c12 => ?_)
        · have h := h.1 c12
          refine lv_aload_n hx hb dX5_change_48 rfl (lv_at hl 0 rfl) ?_
          refine zw_get (C := RX5) (T := TX5) (M := 12) (v := .ref (ad 1)) hx hb hts hi_X5 hown hK hP kX_0 rfl 0 (by decide) hw0 rfl dX5_change_49 ?_
          refine zw_get (C := RX2) (T := TX2) (M := 7) (v := .ref (ad 3)) hx hb hts hi_X2 hown hK hP (oS sS1) rfl 5 (by decide) hw1 rfl dX5_change_52 ?_
          refine lv_iload_n hx hb dX5_change_55 rfl (lv_at hl 1 rfl) ?_
          obtain ⟨hi13, h⟩ := h
          refine zw_aalI hx hb hK hP (rS sS1) hi13 dX5_change_56 ?_
          refine W.eq (g2 := F0 m 57 ls ([.ref (ad (4 + (x1 : Int32).toNatClampNeg))])) rfl ?_
          refine lv_iload_n hx hb dX5_change_57 rfl (lv_at hl 2 rfl) ?_
          refine lv_iload_n hx hb dX5_change_58 rfl (lv_at hl 3 rfl) ?_
          refine zc_i (zc_runS (As := [.int x2, .int x3]) (rest := [.ref (ad (4 + (x1 : Int32).toNatClampNeg))]) ⟨hx, hb, hml, hown, hts⟩ (c_X5_cellOf l D cc A ad rs x2 x3 μ11 _ h) (va_cwS 2 hts gX5_change_X5_cellOf rfl rfl rfl (by decide +kernel) ⟨Nat.le_of_ble_eq_true rfl, Nat.le_of_ble_eq_true rfl⟩) hK hN hP hD rfl hl.1 rfl (Nat.le_of_ble_eq_true rfl) dX5_change_59 ⟨Nat.zero_le _, Nat.zero_le _⟩) hS (fun r14 μ15 H locs h hP hD hS => ?_)
          refine lv_iload hx hb dX5_change_62 (lv_at hl 4 rfl) ?_
          refine lv_iload hx hb dX5_change_64 (lv_at hl 5 rfl) ?_
          refine zc_i (zc_runS (As := [.int x4, .int x5]) (rest := [.int r14, .ref (ad (4 + (x1 : Int32).toNatClampNeg))]) ⟨hx, hb, hml, hown, hts⟩ (c_X5_arrowOf l D cc A ad rs x4 x5 μ15 _ h) (va_cwS 2 hts gX5_change_X5_arrowOf rfl rfl rfl (by decide +kernel) ⟨Nat.le_of_ble_eq_true rfl, Nat.le_of_ble_eq_true rfl⟩) hK hN hP hD rfl hl.1 rfl (Nat.le_of_ble_eq_true rfl) dX5_change_66 ⟨Nat.zero_le _, Nat.zero_le _⟩) hS (fun r16 μ17 H locs h hP hD hS => ?_)
          obtain ⟨hi18, h⟩ := h
          refine zw_iast hx hb hK hP hD hS (iSr sS1 (zw_lt hi13)) hi18 dX5_change_69 (fun μ19 H locs eμ19 hP hD hS => ?_)
          have h := h μ19 eμ19
          refine lv_aload_n hx hb dX5_change_70 rfl (lv_at hl 0 rfl) ?_
          refine zw_get (C := RX5) (T := TX5) (M := 12) (v := .ref (ad 1)) hx hb hts hi_X5 hown hK hP kX_0 rfl 0 (by decide) hw0 rfl dX5_change_71 ?_
          refine lv_iload_n hx hb dX5_change_74 rfl (lv_at hl 1 rfl) ?_
          refine zc_i (zc_runV (As := [.int x1]) (rest := []) ⟨hx, hb, hml, hown, hts⟩ (c_X2_countEdits l D cc A ad rs 1 sS1 x1 μ19 _ h) (cwV 1 hts gX5_change_X2_countEdits rfl rfl rfl (by decide +kernel) ⟨Nat.le_of_ble_eq_true rfl, Nat.le_of_ble_eq_true rfl⟩) (oS sS1) rfl hK hN hP hD rfl hl.1 rfl (Nat.le_of_ble_eq_true rfl) dX5_change_75 ⟨Nat.zero_le _, Nat.zero_le _⟩) hS (fun r20 μ21 H locs h hP hD hS => ?_)
          exact W.iret (v := r20) hx hb hr (fun t ht hW => ⟨⟨r20, μ21, rfl, h, PW.to hK hN hP hD t ht hW⟩, hS.F ht⟩) hS.2.2 dX5_change_78
        · have h := h.2 c12
          refine lv_bipush (v := (-2)) hx hb dX5_change_45 (by decide) ?_
          exact W.iret (v := (-2)) hx hb hr (fun t ht hW => ⟨⟨(-2), μ11, rfl, h, PW.to hK hN hP hD t ht hW⟩, hS.F ht⟩) hS.2.2 dX5_change_47
      · have h := h.2 c9
        refine lv_iconst (v := (-1)) hx hb dX5_change_35 (by decide) ?_
        exact W.iret (v := (-1)) hx hb hr (fun t ht hW => ⟨⟨(-1), μ8, rfl, h, PW.to hK hN hP hD t ht hW⟩, hS.F ht⟩) hS.2.2 dX5_change_36
set_option maxHeartbeats 4000000 in
set_option maxRecDepth 100000 in
theorem c_X5_changeToNone (l : Launch) (D : va_G) (cc : Nat → ClassId) (A : Nat → Prop) (ad : Nat → Nat) (rs : va_W) (x1 : Int32) (x2 : Int32) (x3 : Int32) (μ : Mem) (K : Int32 → Mem → Prop) (h : f_X5_changeToNone x1 x2 x3 μ K) : Met l yX5_changeToNone wsX5_changeToNone ({ frames := 2, cells := 0, slots := 0, locals := 43 }) (va_Pc [.ref (ad 0), .int x1, .int x2, .int x3] (PW shX 67 D cc A ad rs μ)) (va_Qi K (PW shX 67 D cc A ad rs) A) 0 0 A := by
  refine Met.ofW (cc := cX5_changeToNone) (maxL := 4) (ret := (some .int)) (by decide) rfl ?_
  intro p e s m args below meth c s₁ BB hml hv
  obtain ⟨rfl, hP, hK, hD, hN⟩ := hv
  have hx := BB.exec
  have hb := BB.bytes
  have hr := BB.returns
  have hts := atoms_spec (ws := wsX5_changeToNone) BB.pre
  have hown : s.vm.findClass RX5 = some m.cls := findClass_of_methodNamed BB.named
  have hlocks := BB.notSynchronized
  have hi_X5 : ∀ w ∈ u_ws RX5 TX5 12, w ∈ wsX5_changeToNone := by decide +kernel
  have hi_X2 : ∀ w ∈ u_ws RX2 TX2 7, w ∈ wsX5_changeToNone := by decide +kernel
  have hw0 := hts (.fieldLink RX5 12 "FeatureClashes" "setup" "LFeatureClashes$Setup;") (by decide +kernel)
  have hw1 := hts (.fieldLink RX5 109 "FeatureClashes$Setup" "edits" "[[I") (by decide +kernel)
  have hS : va_S A s.heap s.heap [] := va_S.rf
  have hl := lv_entry ([.ref (ad 0), .int x1, .int x2, .int x3]) (n := 4) (Nat.le_of_ble_eq_true rfl)
  rw [lg_entry_eq]
  generalize (lg_sl ([.ref (ad 0), .int x1, .int x2, .int x3]) ++ List.replicate (4 - (lg_sl ([.ref (ad 0), .int x1, .int x2, .int x3])).length) Slot.unset).toArray = ls at hl ⊢
  have hl : lv_has ls 4 [(0, .ref (ad 0)), (1, .int x1), (2, .int x2), (3, .int x3)] := hl
  unfold f_X5_changeToNone at h
  refine lv_aload_n hx hb dX5_changeToNone_0 rfl (lv_at hl 0 rfl) ?_
  refine zw_get (C := RX5) (T := TX5) (M := 12) (v := .ref (ad 1)) hx hb hts hi_X5 hown hK hP kX_0 rfl 0 (by decide) hw0 rfl dX5_changeToNone_1 ?_
  refine lv_iload_n hx hb dX5_changeToNone_4 rfl (lv_at hl 1 rfl) ?_
  refine zc_i (zc_runV (As := [.int x1]) (rest := []) ⟨hx, hb, hml, hown, hts⟩ (c_X2_hasFeature l D cc A ad rs 1 sS1 x1 μ _ h) (cwV 1 hts gX5_changeToNone_X2_hasFeature rfl rfl rfl (by decide +kernel) ⟨Nat.le_of_ble_eq_true rfl, Nat.le_of_ble_eq_true rfl⟩) (oS sS1) rfl hK hN hP hD rfl hl.1 rfl (Nat.le_of_ble_eq_true rfl) dX5_changeToNone_5 ⟨Nat.zero_le _, Nat.zero_le _⟩) hS (fun r1 μ2 H locs h hP hD hS => ?_)
  refine lv_if_eq (tgt := 23) hx hb dX5_changeToNone_8 (by decide) (fun c3 => ?_) (fun c3 => ?_)
  · have h := h.1 c3
    refine lv_iconst (v := (-1)) hx hb dX5_changeToNone_23 (by decide) ?_
    exact W.iret (v := (-1)) hx hb hr (fun t ht hW => ⟨⟨(-1), μ2, rfl, h, PW.to hK hN hP hD t ht hW⟩, hS.F ht⟩) hS.2.2 dX5_changeToNone_24
  · have h := h.2 c3
    refine lv_aload_n hx hb dX5_changeToNone_11 rfl (lv_at hl 0 rfl) ?_
    refine zw_get (C := RX5) (T := TX5) (M := 12) (v := .ref (ad 1)) hx hb hts hi_X5 hown hK hP kX_0 rfl 0 (by decide) hw0 rfl dX5_changeToNone_12 ?_
    refine lv_iload_n hx hb dX5_changeToNone_15 rfl (lv_at hl 2 rfl) ?_
    refine lv_iload_n hx hb dX5_changeToNone_16 rfl (lv_at hl 3 rfl) ?_
    refine zc_i (zc_runV (As := [.int x2, .int x3]) (rest := []) ⟨hx, hb, hml, hown, hts⟩ (c_X2_hasCell l D cc A ad rs 1 sS1 x2 x3 μ2 _ h) (cwV 2 hts gX5_changeToNone_X2_hasCell rfl rfl rfl (by decide +kernel) ⟨Nat.le_of_ble_eq_true rfl, Nat.le_of_ble_eq_true rfl⟩) (oS sS1) rfl hK hN hP hD rfl hl.1 rfl (Nat.le_of_ble_eq_true rfl) dX5_changeToNone_17 ⟨Nat.zero_le _, Nat.zero_le _⟩) hS (fun r4 μ5 H locs h hP hD hS => ?_)
    refine lv_if_ne (tgt := 25) hx hb dX5_changeToNone_20 (by decide) (fun c6 => ?_) (fun c6 => ?_)
    · have h := h.1 c6
      refine lv_aload_n hx hb dX5_changeToNone_25 rfl (lv_at hl 0 rfl) ?_
      refine zw_get (C := RX5) (T := TX5) (M := 12) (v := .ref (ad 1)) hx hb hts hi_X5 hown hK hP kX_0 rfl 0 (by decide) hw0 rfl dX5_changeToNone_26 ?_
      refine zw_get (C := RX2) (T := TX2) (M := 7) (v := .ref (ad 3)) hx hb hts hi_X2 hown hK hP (oS sS1) rfl 5 (by decide) hw1 rfl dX5_changeToNone_29 ?_
      refine lv_iload_n hx hb dX5_changeToNone_32 rfl (lv_at hl 1 rfl) ?_
      obtain ⟨hi7, h⟩ := h
      refine zw_aalI hx hb hK hP (rS sS1) hi7 dX5_changeToNone_33 ?_
      refine W.eq (g2 := F0 m 34 ls ([.ref (ad (4 + (x1 : Int32).toNatClampNeg))])) rfl ?_
      refine lv_iload_n hx hb dX5_changeToNone_34 rfl (lv_at hl 2 rfl) ?_
      refine lv_iload_n hx hb dX5_changeToNone_35 rfl (lv_at hl 3 rfl) ?_
      refine zc_i (zc_runS (As := [.int x2, .int x3]) (rest := [.ref (ad (4 + (x1 : Int32).toNatClampNeg))]) ⟨hx, hb, hml, hown, hts⟩ (c_X5_cellOf l D cc A ad rs x2 x3 μ5 _ h) (va_cwS 2 hts gX5_changeToNone_X5_cellOf rfl rfl rfl (by decide +kernel) ⟨Nat.le_of_ble_eq_true rfl, Nat.le_of_ble_eq_true rfl⟩) hK hN hP hD rfl hl.1 rfl (Nat.le_of_ble_eq_true rfl) dX5_changeToNone_36 ⟨Nat.zero_le _, Nat.zero_le _⟩) hS (fun r8 μ9 H locs h hP hD hS => ?_)
      refine lv_iconst (v := (-1)) hx hb dX5_changeToNone_39 (by decide) ?_
      obtain ⟨hi10, h⟩ := h
      refine zw_iast hx hb hK hP hD hS (iSr sS1 (zw_lt hi7)) hi10 dX5_changeToNone_40 (fun μ11 H locs eμ11 hP hD hS => ?_)
      have h := h μ11 eμ11
      refine lv_aload_n hx hb dX5_changeToNone_41 rfl (lv_at hl 0 rfl) ?_
      refine zw_get (C := RX5) (T := TX5) (M := 12) (v := .ref (ad 1)) hx hb hts hi_X5 hown hK hP kX_0 rfl 0 (by decide) hw0 rfl dX5_changeToNone_42 ?_
      refine lv_iload_n hx hb dX5_changeToNone_45 rfl (lv_at hl 1 rfl) ?_
      refine zc_i (zc_runV (As := [.int x1]) (rest := []) ⟨hx, hb, hml, hown, hts⟩ (c_X2_countEdits l D cc A ad rs 1 sS1 x1 μ11 _ h) (cwV 1 hts gX5_changeToNone_X2_countEdits rfl rfl rfl (by decide +kernel) ⟨Nat.le_of_ble_eq_true rfl, Nat.le_of_ble_eq_true rfl⟩) (oS sS1) rfl hK hN hP hD rfl hl.1 rfl (Nat.le_of_ble_eq_true rfl) dX5_changeToNone_46 ⟨Nat.zero_le _, Nat.zero_le _⟩) hS (fun r12 μ13 H locs h hP hD hS => ?_)
      exact W.iret (v := r12) hx hb hr (fun t ht hW => ⟨⟨r12, μ13, rfl, h, PW.to hK hN hP hD t ht hW⟩, hS.F ht⟩) hS.2.2 dX5_changeToNone_49
    · have h := h.2 c6
      refine lv_iconst (v := (-1)) hx hb dX5_changeToNone_23 (by decide) ?_
      exact W.iret (v := (-1)) hx hb hr (fun t ht hW => ⟨⟨(-1), μ5, rfl, h, PW.to hK hN hP hD t ht hW⟩, hS.F ht⟩) hS.2.2 dX5_changeToNone_24
set_option maxHeartbeats 4000000 in
set_option maxRecDepth 100000 in
theorem c_X5_unchange (l : Launch) (D : va_G) (cc : Nat → ClassId) (A : Nat → Prop) (ad : Nat → Nat) (rs : va_W) (x1 : Int32) (x2 : Int32) (x3 : Int32) (μ : Mem) (K : Int32 → Mem → Prop) (h : f_X5_unchange x1 x2 x3 μ K) : Met l yX5_unchange wsX5_unchange ({ frames := 2, cells := 0, slots := 0, locals := 43 }) (va_Pc [.ref (ad 0), .int x1, .int x2, .int x3] (PW shX 67 D cc A ad rs μ)) (va_Qi K (PW shX 67 D cc A ad rs) A) 0 0 A := by
  refine Met.ofW (cc := cX5_unchange) (maxL := 5) (ret := (some .int)) (by decide) rfl ?_
  intro p e s m args below meth c s₁ BB hml hv
  obtain ⟨rfl, hP, hK, hD, hN⟩ := hv
  have hx := BB.exec
  have hb := BB.bytes
  have hr := BB.returns
  have hts := atoms_spec (ws := wsX5_unchange) BB.pre
  have hown : s.vm.findClass RX5 = some m.cls := findClass_of_methodNamed BB.named
  have hlocks := BB.notSynchronized
  have hi_X5 : ∀ w ∈ u_ws RX5 TX5 12, w ∈ wsX5_unchange := by decide +kernel
  have hi_X2 : ∀ w ∈ u_ws RX2 TX2 7, w ∈ wsX5_unchange := by decide +kernel
  have hw0 := hts (.fieldLink RX5 12 "FeatureClashes" "setup" "LFeatureClashes$Setup;") (by decide +kernel)
  have hw1 := hts (.fieldLink RX5 109 "FeatureClashes$Setup" "edits" "[[I") (by decide +kernel)
  have hS : va_S A s.heap s.heap [] := va_S.rf
  have hl := lv_entry ([.ref (ad 0), .int x1, .int x2, .int x3]) (n := 5) (Nat.le_of_ble_eq_true rfl)
  rw [lg_entry_eq]
  generalize (lg_sl ([.ref (ad 0), .int x1, .int x2, .int x3]) ++ List.replicate (5 - (lg_sl ([.ref (ad 0), .int x1, .int x2, .int x3])).length) Slot.unset).toArray = ls at hl ⊢
  have hl : lv_has ls 5 [(0, .ref (ad 0)), (1, .int x1), (2, .int x2), (3, .int x3)] := hl
  unfold f_X5_unchange at h
  refine lv_aload_n hx hb dX5_unchange_0 rfl (lv_at hl 0 rfl) ?_
  refine zw_get (C := RX5) (T := TX5) (M := 12) (v := .ref (ad 1)) hx hb hts hi_X5 hown hK hP kX_0 rfl 0 (by decide) hw0 rfl dX5_unchange_1 ?_
  refine lv_iload_n hx hb dX5_unchange_4 rfl (lv_at hl 1 rfl) ?_
  refine zc_i (zc_runV (As := [.int x1]) (rest := []) ⟨hx, hb, hml, hown, hts⟩ (c_X2_hasFeature l D cc A ad rs 1 sS1 x1 μ _ h) (cwV 1 hts gX5_unchange_X2_hasFeature rfl rfl rfl (by decide +kernel) ⟨Nat.le_of_ble_eq_true rfl, Nat.le_of_ble_eq_true rfl⟩) (oS sS1) rfl hK hN hP hD rfl hl.1 rfl (Nat.le_of_ble_eq_true rfl) dX5_unchange_5 ⟨Nat.zero_le _, Nat.zero_le _⟩) hS (fun r1 μ2 H locs h hP hD hS => ?_)
  refine lv_if_eq (tgt := 23) hx hb dX5_unchange_8 (by decide) (fun c3 => ?_) (fun c3 => ?_)
  · have h := h.1 c3
    refine lv_iconst (v := (-1)) hx hb dX5_unchange_23 (by decide) ?_
    exact W.iret (v := (-1)) hx hb hr (fun t ht hW => ⟨⟨(-1), μ2, rfl, h, PW.to hK hN hP hD t ht hW⟩, hS.F ht⟩) hS.2.2 dX5_unchange_24
  · have h := h.2 c3
    refine lv_aload_n hx hb dX5_unchange_11 rfl (lv_at hl 0 rfl) ?_
    refine zw_get (C := RX5) (T := TX5) (M := 12) (v := .ref (ad 1)) hx hb hts hi_X5 hown hK hP kX_0 rfl 0 (by decide) hw0 rfl dX5_unchange_12 ?_
    refine lv_iload_n hx hb dX5_unchange_15 rfl (lv_at hl 2 rfl) ?_
    refine lv_iload_n hx hb dX5_unchange_16 rfl (lv_at hl 3 rfl) ?_
    refine zc_i (zc_runV (As := [.int x2, .int x3]) (rest := []) ⟨hx, hb, hml, hown, hts⟩ (c_X2_hasCell l D cc A ad rs 1 sS1 x2 x3 μ2 _ h) (cwV 2 hts gX5_unchange_X2_hasCell rfl rfl rfl (by decide +kernel) ⟨Nat.le_of_ble_eq_true rfl, Nat.le_of_ble_eq_true rfl⟩) (oS sS1) rfl hK hN hP hD rfl hl.1 rfl (Nat.le_of_ble_eq_true rfl) dX5_unchange_17 ⟨Nat.zero_le _, Nat.zero_le _⟩) hS (fun r4 μ5 H locs h hP hD hS => ?_)
    refine lv_if_ne (tgt := 25) hx hb dX5_unchange_20 (by decide) (fun c6 => ?_) (fun c6 => ?_)
    · have h := h.1 c6
      refine lv_iload_n hx hb dX5_unchange_25 rfl (lv_at hl 2 rfl) ?_
      refine lv_iload_n hx hb dX5_unchange_26 rfl (lv_at hl 3 rfl) ?_
      refine zc_i (zc_runS (As := [.int x2, .int x3]) (rest := []) ⟨hx, hb, hml, hown, hts⟩ (c_X5_cellOf l D cc A ad rs x2 x3 μ5 _ h) (va_cwS 2 hts gX5_unchange_X5_cellOf rfl rfl rfl (by decide +kernel) ⟨Nat.le_of_ble_eq_true rfl, Nat.le_of_ble_eq_true rfl⟩) hK hN hP hD rfl hl.1 rfl (Nat.le_of_ble_eq_true rfl) dX5_unchange_27 ⟨Nat.zero_le _, Nat.zero_le _⟩) hS (fun r7 μ8 H locs h hP hD hS => ?_)
      refine lv_istore (lv' := [(4, .int r7), (0, .ref (ad 0)), (1, .int x1), (2, .int x2), (3, .int x3)]) hx hb dX5_unchange_30 hl (by decide) rfl (fun ls hl => ?_)
      refine lv_aload_n hx hb dX5_unchange_32 rfl (lv_at hl 1 rfl) ?_
      refine zw_get (C := RX5) (T := TX5) (M := 12) (v := .ref (ad 1)) hx hb hts hi_X5 hown hK hP kX_0 rfl 0 (by decide) hw0 rfl dX5_unchange_33 ?_
      refine zw_get (C := RX2) (T := TX2) (M := 7) (v := .ref (ad 3)) hx hb hts hi_X2 hown hK hP (oS sS1) rfl 5 (by decide) hw1 rfl dX5_unchange_36 ?_
      refine lv_iload_n hx hb dX5_unchange_39 rfl (lv_at hl 2 rfl) ?_
      obtain ⟨hi9, h⟩ := h
      refine zw_aalI hx hb hK hP (rS sS1) hi9 dX5_unchange_40 ?_
      refine W.eq (g2 := F0 m 41 ls ([.ref (ad (4 + (x1 : Int32).toNatClampNeg))])) rfl ?_
      refine lv_iload hx hb dX5_unchange_41 (lv_at hl 0 rfl) ?_
      obtain ⟨hi10, h⟩ := h
      refine zw_iald hx hb hK hP (iSr sS1 (zw_lt hi9)) hi10 dX5_unchange_43 ?_
      refine lv_bipush (v := (-2)) hx hb dX5_unchange_44 (by decide) ?_
      refine lv_icmp_ne (tgt := 52) hx hb dX5_unchange_46 (by decide) (fun c11 => ?_) (fun c11 => ?_)
      · have h := h.1 c11
        refine lv_aload_n hx hb dX5_unchange_52 rfl (lv_at hl 1 rfl) ?_
        refine zw_get (C := RX5) (T := TX5) (M := 12) (v := .ref (ad 1)) hx hb hts hi_X5 hown hK hP kX_0 rfl 0 (by decide) hw0 rfl dX5_unchange_53 ?_
        refine zw_get (C := RX2) (T := TX2) (M := 7) (v := .ref (ad 3)) hx hb hts hi_X2 hown hK hP (oS sS1) rfl 5 (by decide) hw1 rfl dX5_unchange_56 ?_
        refine lv_iload_n hx hb dX5_unchange_59 rfl (lv_at hl 2 rfl) ?_
        obtain ⟨hi12, h⟩ := h
        refine zw_aalI hx hb hK hP (rS sS1) hi12 dX5_unchange_60 ?_
        refine W.eq (g2 := F0 m 61 ls ([.ref (ad (4 + (x1 : Int32).toNatClampNeg))])) rfl ?_
        refine lv_iload hx hb dX5_unchange_61 (lv_at hl 0 rfl) ?_
        refine lv_bipush (v := (-2)) hx hb dX5_unchange_63 (by decide) ?_
        obtain ⟨hi13, h⟩ := h
        refine zw_iast hx hb hK hP hD hS (iSr sS1 (zw_lt hi12)) hi13 dX5_unchange_65 (fun μ14 H locs eμ14 hP hD hS => ?_)
        have h := h μ14 eμ14
        refine lv_aload_n hx hb dX5_unchange_66 rfl (lv_at hl 1 rfl) ?_
        refine zw_get (C := RX5) (T := TX5) (M := 12) (v := .ref (ad 1)) hx hb hts hi_X5 hown hK hP kX_0 rfl 0 (by decide) hw0 rfl dX5_unchange_67 ?_
        refine lv_iload_n hx hb dX5_unchange_70 rfl (lv_at hl 2 rfl) ?_
        refine zc_i (zc_runV (As := [.int x1]) (rest := []) ⟨hx, hb, hml, hown, hts⟩ (c_X2_countEdits l D cc A ad rs 1 sS1 x1 μ14 _ h) (cwV 1 hts gX5_unchange_X2_countEdits rfl rfl rfl (by decide +kernel) ⟨Nat.le_of_ble_eq_true rfl, Nat.le_of_ble_eq_true rfl⟩) (oS sS1) rfl hK hN hP hD rfl hl.1 rfl (Nat.le_of_ble_eq_true rfl) dX5_unchange_71 ⟨Nat.zero_le _, Nat.zero_le _⟩) hS (fun r15 μ16 H locs h hP hD hS => ?_)
        exact W.iret (v := r15) hx hb hr (fun t ht hW => ⟨⟨r15, μ16, rfl, h, PW.to hK hN hP hD t ht hW⟩, hS.F ht⟩) hS.2.2 dX5_unchange_74
      · have h := h.2 c11
        refine lv_bipush (v := (-5)) hx hb dX5_unchange_49 (by decide) ?_
        exact W.iret (v := (-5)) hx hb hr (fun t ht hW => ⟨⟨(-5), μ8, rfl, h, PW.to hK hN hP hD t ht hW⟩, hS.F ht⟩) hS.2.2 dX5_unchange_51
    · have h := h.2 c6
      refine lv_iconst (v := (-1)) hx hb dX5_unchange_23 (by decide) ?_
      exact W.iret (v := (-1)) hx hb hr (fun t ht hW => ⟨⟨(-1), μ5, rfl, h, PW.to hK hN hP hD t ht hW⟩, hS.F ht⟩) hS.2.2 dX5_unchange_24
set_option maxHeartbeats 4000000 in
set_option maxRecDepth 100000 in
theorem c_X5_setOn (l : Launch) (D : va_G) (cc : Nat → ClassId) (A : Nat → Prop) (ad : Nat → Nat) (rs : va_W) (x1 : Int32) (x2 : Int32) (μ : Mem) (K : Int32 → Mem → Prop) (h : f_X5_setOn x1 x2 μ K) : Met l yX5_setOn wsX5_setOn ({ frames := 2, cells := 0, slots := 0, locals := 42 }) (va_Pc [.ref (ad 0), .int x1, .int x2] (PW shX 67 D cc A ad rs μ)) (va_Qi K (PW shX 67 D cc A ad rs) A) 0 0 A := by
  refine Met.ofW (cc := cX5_setOn) (maxL := 4) (ret := (some .int)) (by decide) rfl ?_
  intro p e s m args below meth c s₁ BB hml hv
  obtain ⟨rfl, hP, hK, hD, hN⟩ := hv
  have hx := BB.exec
  have hb := BB.bytes
  have hr := BB.returns
  have hts := atoms_spec (ws := wsX5_setOn) BB.pre
  have hown : s.vm.findClass RX5 = some m.cls := findClass_of_methodNamed BB.named
  have hlocks := BB.notSynchronized
  have hi_X5 : ∀ w ∈ u_ws RX5 TX5 12, w ∈ wsX5_setOn := by decide +kernel
  have hw0 := hts (.fieldLink RX5 12 "FeatureClashes" "setup" "LFeatureClashes$Setup;") (by decide +kernel)
  have hS : va_S A s.heap s.heap [] := va_S.rf
  have hl := lv_entry ([.ref (ad 0), .int x1, .int x2]) (n := 4) (Nat.le_of_ble_eq_true rfl)
  rw [lg_entry_eq]
  generalize (lg_sl ([.ref (ad 0), .int x1, .int x2]) ++ List.replicate (4 - (lg_sl ([.ref (ad 0), .int x1, .int x2])).length) Slot.unset).toArray = ls at hl ⊢
  have hl : lv_has ls 4 [(0, .ref (ad 0)), (1, .int x1), (2, .int x2)] := hl
  unfold f_X5_setOn at h
  refine (fun h => ?main) (h (fun b1 b2 z0 μ => ∀ (H1 : Heap) (locs : List Loc) (ls : Array Slot), va_P D vwCl (wW shX 67 cc ad μ ++ rs) H1 → va_D A (wW shX 67 cc ad μ ++ rs) → va_S A s.heap H1 locs → lv_has ls 4 [(0, .ref (ad 0)), (1, .int b1), (2, .int b2)] → W p l e (headSpec wsX5_setOn ({ frames := 2, cells := 0, slots := 0, locals := 42 })).room s m ([.ref (ad 0), .int x1, .int x2] : List Value).toArray below meth c H1 locs 0 0 (MQ below (va_Qi K (PW shX 67 D cc A ad rs) A) ([.ref (ad 0), .int x1, .int x2] : List Value).toArray s 0 0 A) (F0 m 29 ls ([.int z0]))) ?b29)
  case main =>
      refine lv_aload_n hx hb dX5_setOn_0 rfl (lv_at hl 0 rfl) ?_
      refine zw_get (C := RX5) (T := TX5) (M := 12) (v := .ref (ad 1)) hx hb hts hi_X5 hown hK hP kX_0 rfl 0 (by decide) hw0 rfl dX5_setOn_1 ?_
      refine lv_iload_n hx hb dX5_setOn_4 rfl (lv_at hl 1 rfl) ?_
      refine zc_i (zc_runV (As := [.int x1]) (rest := []) ⟨hx, hb, hml, hown, hts⟩ (c_X2_hasFeature l D cc A ad rs 1 sS1 x1 μ _ h) (cwV 1 hts gX5_setOn_X2_hasFeature rfl rfl rfl (by decide +kernel) ⟨Nat.le_of_ble_eq_true rfl, Nat.le_of_ble_eq_true rfl⟩) (oS sS1) rfl hK hN hP hD rfl hl.1 rfl (Nat.le_of_ble_eq_true rfl) dX5_setOn_5 ⟨Nat.zero_le _, Nat.zero_le _⟩) hS (fun r1 μ2 H locs h hP hD hS => ?_)
      refine lv_if_ne (tgt := 13) hx hb dX5_setOn_8 (by decide) (fun c3 => ?_) (fun c3 => ?_)
      · have h := h.1 c3
        refine lv_aload_n hx hb dX5_setOn_13 rfl (lv_at hl 0 rfl) ?_
        refine zw_get (C := RX5) (T := TX5) (M := 12) (v := .ref (ad 1)) hx hb hts hi_X5 hown hK hP kX_0 rfl 0 (by decide) hw0 rfl dX5_setOn_14 ?_
        refine lv_iload_n hx hb dX5_setOn_17 rfl (lv_at hl 1 rfl) ?_
        refine zc_i (zc_runV (As := [.int x1]) (rest := []) ⟨hx, hb, hml, hown, hts⟩ (c_X2_isOn l D cc A ad rs 1 sS1 x1 μ2 _ h) (cwV 1 hts gX5_setOn_X2_isOn rfl rfl rfl (by decide +kernel) ⟨Nat.le_of_ble_eq_true rfl, Nat.le_of_ble_eq_true rfl⟩) (oS sS1) rfl hK hN hP hD rfl hl.1 rfl (Nat.le_of_ble_eq_true rfl) dX5_setOn_18 ⟨Nat.zero_le _, Nat.zero_le _⟩) hS (fun r4 μ5 H locs h hP hD hS => ?_)
        refine lv_if_eq (tgt := 28) hx hb dX5_setOn_21 (by decide) (fun c6 => ?_) (fun c6 => ?_)
        · have h := h.1 c6
          refine lv_iconst (v := 0) hx hb dX5_setOn_28 (by decide) ?_
          exact h _ _ _ hP hD hS (lv_sub hl [0, 1, 2] rfl)
        · have h := h.2 c6
          refine lv_iconst (v := 1) hx hb dX5_setOn_24 (by decide) ?_
          refine lv_goto (tgt := 29) hx hb dX5_setOn_25 (by decide) ?_
          exact h _ _ _ hP hD hS (lv_sub hl [0, 1, 2] rfl)
      · have h := h.2 c3
        refine lv_iconst (v := (-1)) hx hb dX5_setOn_11 (by decide) ?_
        exact W.iret (v := (-1)) hx hb hr (fun t ht hW => ⟨⟨(-1), μ2, rfl, h, PW.to hK hN hP hD t ht hW⟩, hS.F ht⟩) hS.2.2 dX5_setOn_12
  case b29 =>
    intro b1 b2 z0 μ h H locs ls hP hD hS hl
    refine lv_istore_n (lv' := [(3, .int z0), (0, .ref (ad 0)), (1, .int b1), (2, .int b2)]) hx hb dX5_setOn_29 rfl hl (by decide) rfl (fun ls hl => ?_)
    refine lv_aload_n hx hb dX5_setOn_30 rfl (lv_at hl 1 rfl) ?_
    refine zw_get (C := RX5) (T := TX5) (M := 12) (v := .ref (ad 1)) hx hb hts hi_X5 hown hK hP kX_0 rfl 0 (by decide) hw0 rfl dX5_setOn_31 ?_
    refine lv_iload_n hx hb dX5_setOn_34 rfl (lv_at hl 2 rfl) ?_
    refine lv_iload_n hx hb dX5_setOn_35 rfl (lv_at hl 3 rfl) ?_
    refine zc_v (zc_runV (As := [.int b1, .int b2]) (rest := []) ⟨hx, hb, hml, hown, hts⟩ (c_X2_turn l D cc A ad rs 1 sS1 b1 b2 μ _ h) (cwV 2 hts gX5_setOn_X2_turn rfl rfl rfl (by decide +kernel) ⟨Nat.le_of_ble_eq_true rfl, Nat.le_of_ble_eq_true rfl⟩) (oS sS1) rfl hK hN hP hD rfl hl.1 rfl (Nat.le_of_ble_eq_true rfl) dX5_setOn_36 ⟨Nat.zero_le _, Nat.zero_le _⟩) hS (fun μ8 H locs h hP hD hS => ?_)
    refine lv_iload_n hx hb dX5_setOn_39 rfl (lv_at hl 0 rfl) ?_
    exact W.iret (v := z0) hx hb hr (fun t ht hW => ⟨⟨z0, μ8, rfl, h, PW.to hK hN hP hD t ht hW⟩, hS.F ht⟩) hS.2.2 dX5_setOn_40
set_option maxHeartbeats 4000000 in
set_option maxRecDepth 100000 in
theorem c_X5_features (l : Launch) (D : va_G) (cc : Nat → ClassId) (A : Nat → Prop) (ad : Nat → Nat) (rs : va_W)  (μ : Mem) (K : Int32 → Mem → Prop) (h : f_X5_features  μ K) : Met l yX5_features wsX5_features ({ frames := 0, cells := 0, slots := 0, locals := 0 }) (va_Pc [.ref (ad 0)] (PW shX 67 D cc A ad rs μ)) (va_Qi K (PW shX 67 D cc A ad rs) A) 0 0 A := by
  refine Met.ofW (cc := cX5_features) (maxL := 1) (ret := (some .int)) (by decide) rfl ?_
  intro p e s m args below meth c s₁ BB hml hv
  obtain ⟨rfl, hP, hK, hD, hN⟩ := hv
  have hx := BB.exec
  have hb := BB.bytes
  have hr := BB.returns
  have hts := atoms_spec (ws := wsX5_features) BB.pre
  have hown : s.vm.findClass RX5 = some m.cls := findClass_of_methodNamed BB.named
  have hlocks := BB.notSynchronized
  have hi_X5 : ∀ w ∈ u_ws RX5 TX5 12, w ∈ wsX5_features := by decide +kernel
  have hi_X2 : ∀ w ∈ u_ws RX2 TX2 7, w ∈ wsX5_features := by decide +kernel
  have hw0 := hts (.fieldLink RX5 12 "FeatureClashes" "setup" "LFeatureClashes$Setup;") (by decide +kernel)
  have hw1 := hts (.fieldLink RX5 99 "FeatureClashes$Setup" "featureCount" "I") (by decide +kernel)
  have hS : va_S A s.heap s.heap [] := va_S.rf
  have hl := lv_entry ([.ref (ad 0)]) (n := 1) (Nat.le_of_ble_eq_true rfl)
  rw [lg_entry_eq]
  generalize (lg_sl ([.ref (ad 0)]) ++ List.replicate (1 - (lg_sl ([.ref (ad 0)])).length) Slot.unset).toArray = ls at hl ⊢
  have hl : lv_has ls 1 [(0, .ref (ad 0))] := hl
  unfold f_X5_features at h
  refine lv_aload_n hx hb dX5_features_0 rfl (lv_at hl 0 rfl) ?_
  refine zw_get (C := RX5) (T := TX5) (M := 12) (v := .ref (ad 1)) hx hb hts hi_X5 hown hK hP kX_0 rfl 0 (by decide) hw0 rfl dX5_features_1 ?_
  refine zw_get (C := RX2) (T := TX2) (M := 7) (v := .int (μ.1 1 2)) hx hb hts hi_X2 hown hK hP (oS sS1) rfl 2 (by decide) hw1 rfl dX5_features_4 ?_
  exact W.iret (v := μ.1 1 2) hx hb hr (fun t ht hW => ⟨⟨μ.1 1 2, μ, rfl, h, PW.to hK hN hP hD t ht hW⟩, hS.F ht⟩) hS.2.2 dX5_features_7
set_option maxHeartbeats 4000000 in
set_option maxRecDepth 100000 in
theorem c_X5_changes (l : Launch) (D : va_G) (cc : Nat → ClassId) (A : Nat → Prop) (ad : Nat → Nat) (rs : va_W) (x1 : Int32) (μ : Mem) (K : Int32 → Mem → Prop) (h : f_X5_changes x1 μ K) : Met l yX5_changes wsX5_changes ({ frames := 1, cells := 0, slots := 0, locals := 23 }) (va_Pc [.ref (ad 0), .int x1] (PW shX 67 D cc A ad rs μ)) (va_Qi K (PW shX 67 D cc A ad rs) A) 0 0 A := by
  refine Met.ofW (cc := cX5_changes) (maxL := 2) (ret := (some .int)) (by decide) rfl ?_
  intro p e s m args below meth c s₁ BB hml hv
  obtain ⟨rfl, hP, hK, hD, hN⟩ := hv
  have hx := BB.exec
  have hb := BB.bytes
  have hr := BB.returns
  have hts := atoms_spec (ws := wsX5_changes) BB.pre
  have hown : s.vm.findClass RX5 = some m.cls := findClass_of_methodNamed BB.named
  have hlocks := BB.notSynchronized
  have hi_X5 : ∀ w ∈ u_ws RX5 TX5 12, w ∈ wsX5_changes := by decide +kernel
  have hw0 := hts (.fieldLink RX5 12 "FeatureClashes" "setup" "LFeatureClashes$Setup;") (by decide +kernel)
  have hS : va_S A s.heap s.heap [] := va_S.rf
  have hl := lv_entry ([.ref (ad 0), .int x1]) (n := 2) (Nat.le_of_ble_eq_true rfl)
  rw [lg_entry_eq]
  generalize (lg_sl ([.ref (ad 0), .int x1]) ++ List.replicate (2 - (lg_sl ([.ref (ad 0), .int x1])).length) Slot.unset).toArray = ls at hl ⊢
  have hl : lv_has ls 2 [(0, .ref (ad 0)), (1, .int x1)] := hl
  unfold f_X5_changes at h
  refine lv_aload_n hx hb dX5_changes_0 rfl (lv_at hl 0 rfl) ?_
  refine zw_get (C := RX5) (T := TX5) (M := 12) (v := .ref (ad 1)) hx hb hts hi_X5 hown hK hP kX_0 rfl 0 (by decide) hw0 rfl dX5_changes_1 ?_
  refine lv_iload_n hx hb dX5_changes_4 rfl (lv_at hl 1 rfl) ?_
  refine zc_i (zc_runV (As := [.int x1]) (rest := []) ⟨hx, hb, hml, hown, hts⟩ (c_X2_hasFeature l D cc A ad rs 1 sS1 x1 μ _ h) (cwV 1 hts gX5_changes_X2_hasFeature rfl rfl rfl (by decide +kernel) ⟨Nat.le_of_ble_eq_true rfl, Nat.le_of_ble_eq_true rfl⟩) (oS sS1) rfl hK hN hP hD rfl hl.1 rfl (Nat.le_of_ble_eq_true rfl) dX5_changes_5 ⟨Nat.zero_le _, Nat.zero_le _⟩) hS (fun r1 μ2 H locs h hP hD hS => ?_)
  refine lv_if_ne (tgt := 13) hx hb dX5_changes_8 (by decide) (fun c3 => ?_) (fun c3 => ?_)
  · have h := h.1 c3
    refine lv_aload_n hx hb dX5_changes_13 rfl (lv_at hl 0 rfl) ?_
    refine zw_get (C := RX5) (T := TX5) (M := 12) (v := .ref (ad 1)) hx hb hts hi_X5 hown hK hP kX_0 rfl 0 (by decide) hw0 rfl dX5_changes_14 ?_
    refine lv_iload_n hx hb dX5_changes_17 rfl (lv_at hl 1 rfl) ?_
    refine zc_i (zc_runV (As := [.int x1]) (rest := []) ⟨hx, hb, hml, hown, hts⟩ (c_X2_countEdits l D cc A ad rs 1 sS1 x1 μ2 _ h) (cwV 1 hts gX5_changes_X2_countEdits rfl rfl rfl (by decide +kernel) ⟨Nat.le_of_ble_eq_true rfl, Nat.le_of_ble_eq_true rfl⟩) (oS sS1) rfl hK hN hP hD rfl hl.1 rfl (Nat.le_of_ble_eq_true rfl) dX5_changes_18 ⟨Nat.zero_le _, Nat.zero_le _⟩) hS (fun r4 μ5 H locs h hP hD hS => ?_)
    exact W.iret (v := r4) hx hb hr (fun t ht hW => ⟨⟨r4, μ5, rfl, h, PW.to hK hN hP hD t ht hW⟩, hS.F ht⟩) hS.2.2 dX5_changes_21
  · have h := h.2 c3
    refine lv_iconst (v := (-1)) hx hb dX5_changes_11 (by decide) ?_
    exact W.iret (v := (-1)) hx hb hr (fun t ht hW => ⟨⟨(-1), μ2, rfl, h, PW.to hK hN hP hD t ht hW⟩, hS.F ht⟩) hS.2.2 dX5_changes_12
set_option maxHeartbeats 4000000 in
set_option maxRecDepth 100000 in
theorem c_X5_append (l : Launch) (D : va_G) (cc : Nat → ClassId) (A : Nat → Prop) (ad : Nat → Nat) (rs : va_W) (x1 : Int32) (μ : Mem) (K : Int32 → Mem → Prop) (h : f_X5_append x1 μ K) : Met l yX5_append wsX5_append ({ frames := 0, cells := 0, slots := 0, locals := 0 }) (va_Pc [.ref (ad 0), .int x1] (PW shX 67 D cc A ad rs μ)) (va_Qi K (PW shX 67 D cc A ad rs) A) 0 0 A := by
  refine Met.ofW (cc := cX5_append) (maxL := 2) (ret := (some .int)) (by decide) rfl ?_
  intro p e s m args below meth c s₁ BB hml hv
  obtain ⟨rfl, hP, hK, hD, hN⟩ := hv
  have hx := BB.exec
  have hb := BB.bytes
  have hr := BB.returns
  have hts := atoms_spec (ws := wsX5_append) BB.pre
  have hown : s.vm.findClass RX5 = some m.cls := findClass_of_methodNamed BB.named
  have hlocks := BB.notSynchronized
  have hi_X5 : ∀ w ∈ u_ws RX5 TX5 12, w ∈ wsX5_append := by decide +kernel
  have hi_X4 : ∀ w ∈ u_ws RX4 TX4 10, w ∈ wsX5_append := by decide +kernel
  have hw0 := hts (.fieldLink RX5 27 "FeatureClashes" "text" "LFeatureClashes$Text;") (by decide +kernel)
  have hw1 := hts (.fieldLink RX5 124 "FeatureClashes$Text" "length" "I") (by decide +kernel)
  have hw2 := hts (.fieldLink RX5 127 "FeatureClashes$Text" "bytes" "[I") (by decide +kernel)
  have hS : va_S A s.heap s.heap [] := va_S.rf
  have hl := lv_entry ([.ref (ad 0), .int x1]) (n := 2) (Nat.le_of_ble_eq_true rfl)
  rw [lg_entry_eq]
  generalize (lg_sl ([.ref (ad 0), .int x1]) ++ List.replicate (2 - (lg_sl ([.ref (ad 0), .int x1])).length) Slot.unset).toArray = ls at hl ⊢
  have hl : lv_has ls 2 [(0, .ref (ad 0)), (1, .int x1)] := hl
  unfold f_X5_append at h
  refine lv_iload_n hx hb dX5_append_0 rfl (lv_at hl 1 rfl) ?_
  refine lv_if_lt (tgt := 10) hx hb dX5_append_1 (by decide) (fun c1 => ?_) (fun c1 => ?_)
  · have h := h.1 c1
    refine lv_bipush (v := (-2)) hx hb dX5_append_10 (by decide) ?_
    exact W.iret (v := (-2)) hx hb hr (fun t ht hW => ⟨⟨(-2), μ, rfl, h, PW.to hK hN hP hD t ht hW⟩, hS.F ht⟩) hS.2.2 dX5_append_12
  · have h := h.2 c1
    refine lv_iload_n hx hb dX5_append_4 rfl (lv_at hl 1 rfl) ?_
    refine lv_bipush (v := 127) hx hb dX5_append_5 (by decide) ?_
    refine lv_icmp_le (tgt := 13) hx hb dX5_append_7 (by decide) (fun c2 => ?_) (fun c2 => ?_)
    · have h := h.1 c2
      refine lv_aload_n hx hb dX5_append_13 rfl (lv_at hl 0 rfl) ?_
      refine zw_get (C := RX5) (T := TX5) (M := 12) (v := .ref (ad 33)) hx hb hts hi_X5 hown hK hP kX_0 rfl 3 (by decide) hw0 rfl dX5_append_14 ?_
      refine zw_get (C := RX4) (T := TX4) (M := 10) (v := .int (μ.1 33 1)) hx hb hts hi_X4 hown hK hP kX_33 rfl 1 (by decide) hw1 rfl dX5_append_17 ?_
      refine lv_bipush (v := 80) hx hb dX5_append_20 (by decide) ?_
      refine lv_icmp_lt (tgt := 28) hx hb dX5_append_22 (by decide) (fun c3 => ?_) (fun c3 => ?_)
      · have h := h.1 c3
        refine lv_aload_n hx hb dX5_append_28 rfl (lv_at hl 0 rfl) ?_
        refine zw_get (C := RX5) (T := TX5) (M := 12) (v := .ref (ad 33)) hx hb hts hi_X5 hown hK hP kX_0 rfl 3 (by decide) hw0 rfl dX5_append_29 ?_
        refine zw_get (C := RX4) (T := TX4) (M := 10) (v := .ref (ad 34)) hx hb hts hi_X4 hown hK hP kX_33 rfl 0 (by decide) hw2 rfl dX5_append_32 ?_
        refine lv_aload_n hx hb dX5_append_35 rfl (lv_at hl 0 rfl) ?_
        refine zw_get (C := RX5) (T := TX5) (M := 12) (v := .ref (ad 33)) hx hb hts hi_X5 hown hK hP kX_0 rfl 3 (by decide) hw0 rfl dX5_append_36 ?_
        refine zw_get (C := RX4) (T := TX4) (M := 10) (v := .int (μ.1 33 1)) hx hb hts hi_X4 hown hK hP kX_33 rfl 1 (by decide) hw1 rfl dX5_append_39 ?_
        refine lv_iload_n hx hb dX5_append_42 rfl (lv_at hl 1 rfl) ?_
        obtain ⟨hi4, h⟩ := h
        refine zw_iast hx hb hK hP hD hS kX_34 hi4 dX5_append_43 (fun μ5 H locs eμ5 hP hD hS => ?_)
        have h := h μ5 eμ5
        refine lv_aload_n hx hb dX5_append_44 rfl (lv_at hl 0 rfl) ?_
        refine zw_get (C := RX5) (T := TX5) (M := 12) (v := .ref (ad 33)) hx hb hts hi_X5 hown hK hP kX_0 rfl 3 (by decide) hw0 rfl dX5_append_45 ?_
        refine lv_dup hx hb dX5_append_48 rfl ?_
        refine zw_get (C := RX4) (T := TX4) (M := 10) (v := .int (μ5.1 33 1)) hx hb hts hi_X4 hown hK hP kX_33 rfl 1 (by decide) hw1 rfl dX5_append_49 ?_
        refine lv_iconst (v := 1) hx hb dX5_append_52 (by decide) ?_
        refine lv_iadd hx hb dX5_append_53 ?_
        refine zw_put (C := RX4) (T := TX4) (M := 10) hx hb hts hi_X4 tyX4 tyX4_ok nmX4 hown hK hP hD hS kX_33 rfl 1 (by decide) hw1 rfl rfl (Nat.le_of_ble_eq_true rfl) rfl dX5_append_54 (fun μ6 H locs eμ6 hP hD hS => ?_)
        have h := h μ6 eμ6
        refine lv_aload_n hx hb dX5_append_57 rfl (lv_at hl 0 rfl) ?_
        refine zw_get (C := RX5) (T := TX5) (M := 12) (v := .ref (ad 33)) hx hb hts hi_X5 hown hK hP kX_0 rfl 3 (by decide) hw0 rfl dX5_append_58 ?_
        refine zw_get (C := RX4) (T := TX4) (M := 10) (v := .int (μ6.1 33 1)) hx hb hts hi_X4 hown hK hP kX_33 rfl 1 (by decide) hw1 rfl dX5_append_61 ?_
        exact W.iret (v := μ6.1 33 1) hx hb hr (fun t ht hW => ⟨⟨μ6.1 33 1, μ6, rfl, h, PW.to hK hN hP hD t ht hW⟩, hS.F ht⟩) hS.2.2 dX5_append_64
      · have h := h.2 c3
        refine lv_bipush (v := (-4)) hx hb dX5_append_25 (by decide) ?_
        exact W.iret (v := (-4)) hx hb hr (fun t ht hW => ⟨⟨(-4), μ, rfl, h, PW.to hK hN hP hD t ht hW⟩, hS.F ht⟩) hS.2.2 dX5_append_27
    · have h := h.2 c2
      refine lv_bipush (v := (-2)) hx hb dX5_append_10 (by decide) ?_
      exact W.iret (v := (-2)) hx hb hr (fun t ht hW => ⟨⟨(-2), μ, rfl, h, PW.to hK hN hP hD t ht hW⟩, hS.F ht⟩) hS.2.2 dX5_append_12
set_option maxHeartbeats 4000000 in
set_option maxRecDepth 100000 in
theorem c_X5_clearText (l : Launch) (D : va_G) (cc : Nat → ClassId) (A : Nat → Prop) (ad : Nat → Nat) (rs : va_W)  (μ : Mem) (K : Int32 → Mem → Prop) (h : f_X5_clearText  μ K) : Met l yX5_clearText wsX5_clearText ({ frames := 0, cells := 0, slots := 0, locals := 0 }) (va_Pc [.ref (ad 0)] (PW shX 67 D cc A ad rs μ)) (va_Qi K (PW shX 67 D cc A ad rs) A) 0 0 A := by
  refine Met.ofW (cc := cX5_clearText) (maxL := 2) (ret := (some .int)) (by decide) rfl ?_
  intro p e s m args below meth c s₁ BB hml hv
  obtain ⟨rfl, hP, hK, hD, hN⟩ := hv
  have hx := BB.exec
  have hb := BB.bytes
  have hr := BB.returns
  have hts := atoms_spec (ws := wsX5_clearText) BB.pre
  have hown : s.vm.findClass RX5 = some m.cls := findClass_of_methodNamed BB.named
  have hlocks := BB.notSynchronized
  have hi_X5 : ∀ w ∈ u_ws RX5 TX5 12, w ∈ wsX5_clearText := by decide +kernel
  have hi_X4 : ∀ w ∈ u_ws RX4 TX4 10, w ∈ wsX5_clearText := by decide +kernel
  have hw0 := hts (.fieldLink RX5 27 "FeatureClashes" "text" "LFeatureClashes$Text;") (by decide +kernel)
  have hw1 := hts (.fieldLink RX5 124 "FeatureClashes$Text" "length" "I") (by decide +kernel)
  have hS : va_S A s.heap s.heap [] := va_S.rf
  have hl := lv_entry ([.ref (ad 0)]) (n := 2) (Nat.le_of_ble_eq_true rfl)
  rw [lg_entry_eq]
  generalize (lg_sl ([.ref (ad 0)]) ++ List.replicate (2 - (lg_sl ([.ref (ad 0)])).length) Slot.unset).toArray = ls at hl ⊢
  have hl : lv_has ls 2 [(0, .ref (ad 0))] := hl
  unfold f_X5_clearText at h
  refine lv_aload_n hx hb dX5_clearText_0 rfl (lv_at hl 0 rfl) ?_
  refine zw_get (C := RX5) (T := TX5) (M := 12) (v := .ref (ad 33)) hx hb hts hi_X5 hown hK hP kX_0 rfl 3 (by decide) hw0 rfl dX5_clearText_1 ?_
  refine zw_get (C := RX4) (T := TX4) (M := 10) (v := .int (μ.1 33 1)) hx hb hts hi_X4 hown hK hP kX_33 rfl 1 (by decide) hw1 rfl dX5_clearText_4 ?_
  refine lv_topi (fun y1 ey1 => ?_)
  have h := h y1 ey1
  refine lv_istore_n (lv' := [(1, .int y1), (0, .ref (ad 0))]) hx hb dX5_clearText_7 rfl hl (by decide) rfl (fun ls hl => ?_)
  refine lv_aload_n hx hb dX5_clearText_8 rfl (lv_at hl 1 rfl) ?_
  refine zw_get (C := RX5) (T := TX5) (M := 12) (v := .ref (ad 33)) hx hb hts hi_X5 hown hK hP kX_0 rfl 3 (by decide) hw0 rfl dX5_clearText_9 ?_
  refine lv_iconst (v := 0) hx hb dX5_clearText_12 (by decide) ?_
  refine zw_put (C := RX4) (T := TX4) (M := 10) hx hb hts hi_X4 tyX4 tyX4_ok nmX4 hown hK hP hD hS kX_33 rfl 1 (by decide) hw1 rfl rfl (Nat.le_of_ble_eq_true rfl) rfl dX5_clearText_13 (fun μ2 H locs eμ2 hP hD hS => ?_)
  have h := h μ2 eμ2
  refine lv_iload_n hx hb dX5_clearText_16 rfl (lv_at hl 0 rfl) ?_
  exact W.iret (v := y1) hx hb hr (fun t ht hW => ⟨⟨y1, μ2, rfl, h, PW.to hK hN hP hD t ht hW⟩, hS.F ht⟩) hS.2.2 dX5_clearText_17
set_option maxHeartbeats 4000000 in
set_option maxRecDepth 100000 in
theorem c_X5_faultPosition (l : Launch) (D : va_G) (cc : Nat → ClassId) (A : Nat → Prop) (ad : Nat → Nat) (rs : va_W)  (μ : Mem) (K : Int32 → Mem → Prop) (h : f_X5_faultPosition  μ K) : Met l yX5_faultPosition wsX5_faultPosition ({ frames := 4, cells := 0, slots := 0, locals := 87 }) (va_Pc [.ref (ad 0)] (PW shX 67 D cc A ad rs μ)) (va_Qi K (PW shX 67 D cc A ad rs) A) 0 0 A := by
  refine Met.ofW (cc := cX5_faultPosition) (maxL := 1) (ret := (some .int)) (by decide) rfl ?_
  intro p e s m args below meth c s₁ BB hml hv
  obtain ⟨rfl, hP, hK, hD, hN⟩ := hv
  have hx := BB.exec
  have hb := BB.bytes
  have hr := BB.returns
  have hts := atoms_spec (ws := wsX5_faultPosition) BB.pre
  have hown : s.vm.findClass RX5 = some m.cls := findClass_of_methodNamed BB.named
  have hlocks := BB.notSynchronized
  have hi_X5 : ∀ w ∈ u_ws RX5 TX5 12, w ∈ wsX5_faultPosition := by decide +kernel
  have hi_X2 : ∀ w ∈ u_ws RX2 TX2 7, w ∈ wsX5_faultPosition := by decide +kernel
  have hw0 := hts (.fieldLink RX5 27 "FeatureClashes" "text" "LFeatureClashes$Text;") (by decide +kernel)
  have hw1 := hts (.fieldLink RX5 12 "FeatureClashes" "setup" "LFeatureClashes$Setup;") (by decide +kernel)
  have hw2 := hts (.fieldLink RX5 65 "FeatureClashes$Setup" "states" "I") (by decide +kernel)
  have hw3 := hts (.fieldLink RX5 68 "FeatureClashes$Setup" "letters" "I") (by decide +kernel)
  have hS : va_S A s.heap s.heap [] := va_S.rf
  have hl := lv_entry ([.ref (ad 0)]) (n := 1) (Nat.le_of_ble_eq_true rfl)
  rw [lg_entry_eq]
  generalize (lg_sl ([.ref (ad 0)]) ++ List.replicate (1 - (lg_sl ([.ref (ad 0)])).length) Slot.unset).toArray = ls at hl ⊢
  have hl : lv_has ls 1 [(0, .ref (ad 0))] := hl
  unfold f_X5_faultPosition at h
  refine lv_aload_n hx hb dX5_faultPosition_0 rfl (lv_at hl 0 rfl) ?_
  refine zw_get (C := RX5) (T := TX5) (M := 12) (v := .ref (ad 33)) hx hb hts hi_X5 hown hK hP kX_0 rfl 3 (by decide) hw0 rfl dX5_faultPosition_1 ?_
  refine lv_aload_n hx hb dX5_faultPosition_4 rfl (lv_at hl 0 rfl) ?_
  refine zw_get (C := RX5) (T := TX5) (M := 12) (v := .ref (ad 1)) hx hb hts hi_X5 hown hK hP kX_0 rfl 0 (by decide) hw1 rfl dX5_faultPosition_5 ?_
  refine zw_get (C := RX2) (T := TX2) (M := 7) (v := .int (μ.1 1 0)) hx hb hts hi_X2 hown hK hP (oS sS1) rfl 0 (by decide) hw2 rfl dX5_faultPosition_8 ?_
  refine lv_aload_n hx hb dX5_faultPosition_11 rfl (lv_at hl 0 rfl) ?_
  refine zw_get (C := RX5) (T := TX5) (M := 12) (v := .ref (ad 1)) hx hb hts hi_X5 hown hK hP kX_0 rfl 0 (by decide) hw1 rfl dX5_faultPosition_12 ?_
  refine zw_get (C := RX2) (T := TX2) (M := 7) (v := .int (μ.1 1 1)) hx hb hts hi_X2 hown hK hP (oS sS1) rfl 1 (by decide) hw3 rfl dX5_faultPosition_15 ?_
  refine zc_i (zc_runV (As := [.int (μ.1 1 0), .int (μ.1 1 1)]) (rest := []) ⟨hx, hb, hml, hown, hts⟩ (c_X4_parse l D cc A ad rs (μ.1 1 0) (μ.1 1 1) μ _ h) (cwV 2 hts gX5_faultPosition_X4_parse rfl rfl rfl (by decide +kernel) ⟨Nat.le_of_ble_eq_true rfl, Nat.le_of_ble_eq_true rfl⟩) kX_33 rfl hK hN hP hD rfl hl.1 rfl (Nat.le_of_ble_eq_true rfl) dX5_faultPosition_18 ⟨Nat.zero_le _, Nat.zero_le _⟩) hS (fun r1 μ2 H locs h hP hD hS => ?_)
  exact W.iret (v := r1) hx hb hr (fun t ht hW => ⟨⟨r1, μ2, rfl, h, PW.to hK hN hP hD t ht hW⟩, hS.F ht⟩) hS.2.2 dX5_faultPosition_21
set_option maxHeartbeats 4000000 in
set_option maxRecDepth 100000 in
theorem c_X5_read (l : Launch) (D : va_G) (cc : Nat → ClassId) (A : Nat → Prop) (ad : Nat → Nat) (rs : va_W) (x1 : Int32) (μ : Mem) (K : Int32 → Mem → Prop) (h : f_X5_read x1 μ K) : Met l yX5_read wsX5_read ({ frames := 4, cells := 0, slots := 0, locals := 87 }) (va_Pc [.ref (ad 0), .int x1] (PW shX 67 D cc A ad rs μ)) (va_Qi K (PW shX 67 D cc A ad rs) A) 0 0 A := by
  refine Met.ofW (cc := cX5_read) (maxL := 2) (ret := (some .int)) (by decide) rfl ?_
  intro p e s m args below meth c s₁ BB hml hv
  obtain ⟨rfl, hP, hK, hD, hN⟩ := hv
  have hx := BB.exec
  have hb := BB.bytes
  have hr := BB.returns
  have hts := atoms_spec (ws := wsX5_read) BB.pre
  have hown : s.vm.findClass RX5 = some m.cls := findClass_of_methodNamed BB.named
  have hlocks := BB.notSynchronized
  have hi_X5 : ∀ w ∈ u_ws RX5 TX5 12, w ∈ wsX5_read := by decide +kernel
  have hi_X2 : ∀ w ∈ u_ws RX2 TX2 7, w ∈ wsX5_read := by decide +kernel
  have hi_X4 : ∀ w ∈ u_ws RX4 TX4 10, w ∈ wsX5_read := by decide +kernel
  have hw0 := hts (.fieldLink RX5 12 "FeatureClashes" "setup" "LFeatureClashes$Setup;") (by decide +kernel)
  have hw1 := hts (.fieldLink RX5 27 "FeatureClashes" "text" "LFeatureClashes$Text;") (by decide +kernel)
  have hw2 := hts (.fieldLink RX5 65 "FeatureClashes$Setup" "states" "I") (by decide +kernel)
  have hw3 := hts (.fieldLink RX5 68 "FeatureClashes$Setup" "letters" "I") (by decide +kernel)
  have hw4 := hts (.fieldLink RX5 133 "FeatureClashes$Text" "edits" "[I") (by decide +kernel)
  have hw5 := hts (.fieldLink RX5 109 "FeatureClashes$Setup" "edits" "[[I") (by decide +kernel)
  have hw6 := hts (.fieldLink RX5 143 "FeatureClashes$Text" "editCount" "I") (by decide +kernel)
  have hw7 := hts (.fieldLink RX5 96 "FeatureClashes$Setup" "base" "[I") (by decide +kernel)
  have hS : va_S A s.heap s.heap [] := va_S.rf
  have hl := lv_entry ([.ref (ad 0), .int x1]) (n := 2) (Nat.le_of_ble_eq_true rfl)
  rw [lg_entry_eq]
  generalize (lg_sl ([.ref (ad 0), .int x1]) ++ List.replicate (2 - (lg_sl ([.ref (ad 0), .int x1])).length) Slot.unset).toArray = ls at hl ⊢
  have hl : lv_has ls 2 [(0, .ref (ad 0)), (1, .int x1)] := hl
  unfold f_X5_read at h
  refine (fun h => ?main) (h (fun b1 μ => ∀ (H1 : Heap) (locs : List Loc) (ls : Array Slot), va_P D vwCl (wW shX 67 cc ad μ ++ rs) H1 → va_D A (wW shX 67 cc ad μ ++ rs) → va_S A s.heap H1 locs → lv_has ls 2 [(0, .ref (ad 0)), (1, .int b1)] → W p l e (headSpec wsX5_read ({ frames := 4, cells := 0, slots := 0, locals := 87 })).room s m ([.ref (ad 0), .int x1] : List Value).toArray below meth c H1 locs 0 0 (MQ below (va_Qi K (PW shX 67 D cc A ad rs) A) ([.ref (ad 0), .int x1] : List Value).toArray s 0 0 A) (F0 m 18 ls ([]))) ?b18)
  case main =>
      refine lv_iload_n hx hb dX5_read_0 rfl (lv_at hl 1 rfl) ?_
      refine lv_iconst (v := (-1)) hx hb dX5_read_1 (by decide) ?_
      refine lv_icmp_eq (tgt := 18) hx hb dX5_read_2 (by decide) (fun c1 => ?_) (fun c1 => ?_)
      · have h := h.1 c1
        exact h _ _ _ hP hD hS (lv_sub hl [0, 1] rfl)
      · have h := h.2 c1
        refine lv_aload_n hx hb dX5_read_5 rfl (lv_at hl 0 rfl) ?_
        refine zw_get (C := RX5) (T := TX5) (M := 12) (v := .ref (ad 1)) hx hb hts hi_X5 hown hK hP kX_0 rfl 0 (by decide) hw0 rfl dX5_read_6 ?_
        refine lv_iload_n hx hb dX5_read_9 rfl (lv_at hl 1 rfl) ?_
        refine zc_i (zc_runV (As := [.int x1]) (rest := []) ⟨hx, hb, hml, hown, hts⟩ (c_X2_hasFeature l D cc A ad rs 1 sS1 x1 μ _ h) (cwV 1 hts gX5_read_X2_hasFeature rfl rfl rfl (by decide +kernel) ⟨Nat.le_of_ble_eq_true rfl, Nat.le_of_ble_eq_true rfl⟩) (oS sS1) rfl hK hN hP hD rfl hl.1 rfl (Nat.le_of_ble_eq_true rfl) dX5_read_10 ⟨Nat.zero_le _, Nat.zero_le _⟩) hS (fun r2 μ3 H locs h hP hD hS => ?_)
        refine lv_if_ne (tgt := 18) hx hb dX5_read_13 (by decide) (fun c4 => ?_) (fun c4 => ?_)
        · have h := h.1 c4
          exact h _ _ _ hP hD hS (lv_sub hl [0, 1] rfl)
        · have h := h.2 c4
          refine lv_iconst (v := (-1)) hx hb dX5_read_16 (by decide) ?_
          exact W.iret (v := (-1)) hx hb hr (fun t ht hW => ⟨⟨(-1), μ3, rfl, h, PW.to hK hN hP hD t ht hW⟩, hS.F ht⟩) hS.2.2 dX5_read_17
  case b18 =>
    intro b1 μ h H locs ls hP hD hS hl
    refine lv_aload_n hx hb dX5_read_18 rfl (lv_at hl 0 rfl) ?_
    refine zw_get (C := RX5) (T := TX5) (M := 12) (v := .ref (ad 33)) hx hb hts hi_X5 hown hK hP kX_0 rfl 3 (by decide) hw1 rfl dX5_read_19 ?_
    refine lv_aload_n hx hb dX5_read_22 rfl (lv_at hl 0 rfl) ?_
    refine zw_get (C := RX5) (T := TX5) (M := 12) (v := .ref (ad 1)) hx hb hts hi_X5 hown hK hP kX_0 rfl 0 (by decide) hw0 rfl dX5_read_23 ?_
    refine zw_get (C := RX2) (T := TX2) (M := 7) (v := .int (μ.1 1 0)) hx hb hts hi_X2 hown hK hP (oS sS1) rfl 0 (by decide) hw2 rfl dX5_read_26 ?_
    refine lv_aload_n hx hb dX5_read_29 rfl (lv_at hl 0 rfl) ?_
    refine zw_get (C := RX5) (T := TX5) (M := 12) (v := .ref (ad 1)) hx hb hts hi_X5 hown hK hP kX_0 rfl 0 (by decide) hw0 rfl dX5_read_30 ?_
    refine zw_get (C := RX2) (T := TX2) (M := 7) (v := .int (μ.1 1 1)) hx hb hts hi_X2 hown hK hP (oS sS1) rfl 1 (by decide) hw3 rfl dX5_read_33 ?_
    refine zc_i (zc_runV (As := [.int (μ.1 1 0), .int (μ.1 1 1)]) (rest := []) ⟨hx, hb, hml, hown, hts⟩ (c_X4_parse l D cc A ad rs (μ.1 1 0) (μ.1 1 1) μ _ h) (cwV 2 hts gX5_read_X4_parse rfl rfl rfl (by decide +kernel) ⟨Nat.le_of_ble_eq_true rfl, Nat.le_of_ble_eq_true rfl⟩) kX_33 rfl hK hN hP hD rfl hl.1 rfl (Nat.le_of_ble_eq_true rfl) dX5_read_36 ⟨Nat.zero_le _, Nat.zero_le _⟩) hS (fun r5 μ6 H locs h hP hD hS => ?_)
    refine lv_bipush (v := (-5)) hx hb dX5_read_39 (by decide) ?_
    refine lv_icmp_eq (tgt := 47) hx hb dX5_read_41 (by decide) (fun c7 => ?_) (fun c7 => ?_)
    · have h := h.1 c7
      refine lv_iload_n hx hb dX5_read_47 rfl (lv_at hl 1 rfl) ?_
      refine lv_iconst (v := (-1)) hx hb dX5_read_48 (by decide) ?_
      refine lv_icmp_ne (tgt := 79) hx hb dX5_read_49 (by decide) (fun c8 => ?_) (fun c8 => ?_)
      · have h := h.1 c8
        refine lv_aload_n hx hb dX5_read_79 rfl (lv_at hl 0 rfl) ?_
        refine zw_get (C := RX5) (T := TX5) (M := 12) (v := .ref (ad 33)) hx hb hts hi_X5 hown hK hP kX_0 rfl 3 (by decide) hw1 rfl dX5_read_80 ?_
        refine zw_get (C := RX4) (T := TX4) (M := 10) (v := .ref (ad 35)) hx hb hts hi_X4 hown hK hP kX_33 rfl 2 (by decide) hw4 rfl dX5_read_83 ?_
        refine lv_aload_n hx hb dX5_read_86 rfl (lv_at hl 0 rfl) ?_
        refine zw_get (C := RX5) (T := TX5) (M := 12) (v := .ref (ad 1)) hx hb hts hi_X5 hown hK hP kX_0 rfl 0 (by decide) hw0 rfl dX5_read_87 ?_
        refine zw_get (C := RX2) (T := TX2) (M := 7) (v := .ref (ad 3)) hx hb hts hi_X2 hown hK hP (oS sS1) rfl 5 (by decide) hw5 rfl dX5_read_90 ?_
        refine lv_iload_n hx hb dX5_read_93 rfl (lv_at hl 1 rfl) ?_
        obtain ⟨hi9, h⟩ := h
        refine zw_aalI hx hb hK hP (rS sS1) hi9 dX5_read_94 ?_
        refine W.eq (g2 := F0 m 95 ls ([.ref (ad (4 + (b1 : Int32).toNatClampNeg)), .ref (ad 35)])) rfl ?_
        refine zc_v (zc_runS (As := [.ref (ad 35), .ref (ad (4 + (b1 : Int32).toNatClampNeg))]) (rest := []) ⟨hx, hb, hml, hown, hts⟩ (c_X5_copyRow l D cc A ad rs 35 kX_35 (4 + (b1 : Int32).toNatClampNeg) (iSr sS1 (zw_lt hi9)) μ6 _ h) (va_cwS 2 hts gX5_read_X5_copyRow rfl rfl rfl (by decide +kernel) ⟨Nat.le_of_ble_eq_true rfl, Nat.le_of_ble_eq_true rfl⟩) hK hN hP hD rfl hl.1 rfl (Nat.le_of_ble_eq_true rfl) dX5_read_95 ⟨Nat.zero_le _, Nat.zero_le _⟩) hS (fun μ11 H locs h hP hD hS => ?_)
        refine lv_aload_n hx hb dX5_read_98 rfl (lv_at hl 0 rfl) ?_
        refine zw_get (C := RX5) (T := TX5) (M := 12) (v := .ref (ad 33)) hx hb hts hi_X5 hown hK hP kX_0 rfl 3 (by decide) hw1 rfl dX5_read_99 ?_
        refine zw_get (C := RX4) (T := TX4) (M := 10) (v := .int (μ11.1 33 3)) hx hb hts hi_X4 hown hK hP kX_33 rfl 3 (by decide) hw6 rfl dX5_read_102 ?_
        exact W.iret (v := μ11.1 33 3) hx hb hr (fun t ht hW => ⟨⟨μ11.1 33 3, μ11, rfl, h, PW.to hK hN hP hD t ht hW⟩, hS.F ht⟩) hS.2.2 dX5_read_105
      · have h := h.2 c8
        refine lv_aload_n hx hb dX5_read_52 rfl (lv_at hl 0 rfl) ?_
        refine zw_get (C := RX5) (T := TX5) (M := 12) (v := .ref (ad 1)) hx hb hts hi_X5 hown hK hP kX_0 rfl 0 (by decide) hw0 rfl dX5_read_53 ?_
        refine zw_get (C := RX2) (T := TX2) (M := 7) (v := .ref (ad 2)) hx hb hts hi_X2 hown hK hP (oS sS1) rfl 4 (by decide) hw7 rfl dX5_read_56 ?_
        refine lv_aload_n hx hb dX5_read_59 rfl (lv_at hl 0 rfl) ?_
        refine zw_get (C := RX5) (T := TX5) (M := 12) (v := .ref (ad 33)) hx hb hts hi_X5 hown hK hP kX_0 rfl 3 (by decide) hw1 rfl dX5_read_60 ?_
        refine zw_get (C := RX4) (T := TX4) (M := 10) (v := .ref (ad 35)) hx hb hts hi_X4 hown hK hP kX_33 rfl 2 (by decide) hw4 rfl dX5_read_63 ?_
        refine lv_aload_n hx hb dX5_read_66 rfl (lv_at hl 0 rfl) ?_
        refine zw_get (C := RX5) (T := TX5) (M := 12) (v := .ref (ad 1)) hx hb hts hi_X5 hown hK hP kX_0 rfl 0 (by decide) hw0 rfl dX5_read_67 ?_
        refine zw_get (C := RX2) (T := TX2) (M := 7) (v := .ref (ad 2)) hx hb hts hi_X2 hown hK hP (oS sS1) rfl 4 (by decide) hw7 rfl dX5_read_70 ?_
        refine zc_v (zc_runS (As := [.ref (ad 2), .ref (ad 35), .ref (ad 2)]) (rest := []) ⟨hx, hb, hml, hown, hts⟩ (c_X5_putOn l D cc A ad rs 2 (iS1 sS1) 35 kX_35 2 (iS1 sS1) μ6 _ h) (va_cwS 3 hts gX5_read_X5_putOn rfl rfl rfl (by decide +kernel) ⟨Nat.le_of_ble_eq_true rfl, Nat.le_of_ble_eq_true rfl⟩) hK hN hP hD rfl hl.1 rfl (Nat.le_of_ble_eq_true rfl) dX5_read_73 ⟨Nat.zero_le _, Nat.zero_le _⟩) hS (fun μ13 H locs h hP hD hS => ?_)
        refine lv_goto (tgt := 98) hx hb dX5_read_76 (by decide) ?_
        refine lv_aload_n hx hb dX5_read_98 rfl (lv_at hl 0 rfl) ?_
        refine zw_get (C := RX5) (T := TX5) (M := 12) (v := .ref (ad 33)) hx hb hts hi_X5 hown hK hP kX_0 rfl 3 (by decide) hw1 rfl dX5_read_99 ?_
        refine zw_get (C := RX4) (T := TX4) (M := 10) (v := .int (μ13.1 33 3)) hx hb hts hi_X4 hown hK hP kX_33 rfl 3 (by decide) hw6 rfl dX5_read_102 ?_
        exact W.iret (v := μ13.1 33 3) hx hb hr (fun t ht hW => ⟨⟨μ13.1 33 3, μ13, rfl, h, PW.to hK hN hP hD t ht hW⟩, hS.F ht⟩) hS.2.2 dX5_read_105
    · have h := h.2 c7
      refine lv_bipush (v := (-3)) hx hb dX5_read_44 (by decide) ?_
      exact W.iret (v := (-3)) hx hb hr (fun t ht hW => ⟨⟨(-3), μ6, rfl, h, PW.to hK hN hP hD t ht hW⟩, hS.F ht⟩) hS.2.2 dX5_read_46
set_option maxHeartbeats 4000000 in
set_option maxRecDepth 100000 in
theorem c_X5_areTwoFeatures (l : Launch) (D : va_G) (cc : Nat → ClassId) (A : Nat → Prop) (ad : Nat → Nat) (rs : va_W) (x1 : Int32) (x2 : Int32) (μ : Mem) (K : Int32 → Mem → Prop) (h : f_X5_areTwoFeatures x1 x2 μ K) : Met l yX5_areTwoFeatures wsX5_areTwoFeatures ({ frames := 1, cells := 0, slots := 0, locals := 21 }) (va_Pc [.ref (ad 0), .int x1, .int x2] (PW shX 67 D cc A ad rs μ)) (va_Qi K (PW shX 67 D cc A ad rs) A) 0 0 A := by
  refine Met.ofW (cc := cX5_areTwoFeatures) (maxL := 3) (ret := (some .boolean)) (by decide) rfl ?_
  intro p e s m args below meth c s₁ BB hml hv
  obtain ⟨rfl, hP, hK, hD, hN⟩ := hv
  have hx := BB.exec
  have hb := BB.bytes
  have hr := BB.returns
  have hts := atoms_spec (ws := wsX5_areTwoFeatures) BB.pre
  have hown : s.vm.findClass RX5 = some m.cls := findClass_of_methodNamed BB.named
  have hlocks := BB.notSynchronized
  have hi_X5 : ∀ w ∈ u_ws RX5 TX5 12, w ∈ wsX5_areTwoFeatures := by decide +kernel
  have hw0 := hts (.fieldLink RX5 12 "FeatureClashes" "setup" "LFeatureClashes$Setup;") (by decide +kernel)
  have hS : va_S A s.heap s.heap [] := va_S.rf
  have hl := lv_entry ([.ref (ad 0), .int x1, .int x2]) (n := 3) (Nat.le_of_ble_eq_true rfl)
  rw [lg_entry_eq]
  generalize (lg_sl ([.ref (ad 0), .int x1, .int x2]) ++ List.replicate (3 - (lg_sl ([.ref (ad 0), .int x1, .int x2])).length) Slot.unset).toArray = ls at hl ⊢
  have hl : lv_has ls 3 [(0, .ref (ad 0)), (1, .int x1), (2, .int x2)] := hl
  unfold f_X5_areTwoFeatures at h
  refine lv_aload_n hx hb dX5_areTwoFeatures_0 rfl (lv_at hl 0 rfl) ?_
  refine zw_get (C := RX5) (T := TX5) (M := 12) (v := .ref (ad 1)) hx hb hts hi_X5 hown hK hP kX_0 rfl 0 (by decide) hw0 rfl dX5_areTwoFeatures_1 ?_
  refine lv_iload_n hx hb dX5_areTwoFeatures_4 rfl (lv_at hl 1 rfl) ?_
  refine zc_i (zc_runV (As := [.int x1]) (rest := []) ⟨hx, hb, hml, hown, hts⟩ (c_X2_hasFeature l D cc A ad rs 1 sS1 x1 μ _ h) (cwV 1 hts gX5_areTwoFeatures_X2_hasFeature rfl rfl rfl (by decide +kernel) ⟨Nat.le_of_ble_eq_true rfl, Nat.le_of_ble_eq_true rfl⟩) (oS sS1) rfl hK hN hP hD rfl hl.1 rfl (Nat.le_of_ble_eq_true rfl) dX5_areTwoFeatures_5 ⟨Nat.zero_le _, Nat.zero_le _⟩) hS (fun r1 μ2 H locs h hP hD hS => ?_)
  refine lv_if_eq (tgt := 31) hx hb dX5_areTwoFeatures_8 (by decide) (fun c3 => ?_) (fun c3 => ?_)
  · have h := h.1 c3
    refine lv_iconst (v := 0) hx hb dX5_areTwoFeatures_31 (by decide) ?_
    exact W.zret (ty := .boolean) (v := 0) hx hb hr rfl (fun t ht hW => ⟨⟨0, μ2, rfl, h, PW.to hK hN hP hD t ht hW⟩, hS.F ht⟩) hS.2.2 dX5_areTwoFeatures_32
  · have h := h.2 c3
    refine lv_aload_n hx hb dX5_areTwoFeatures_11 rfl (lv_at hl 0 rfl) ?_
    refine zw_get (C := RX5) (T := TX5) (M := 12) (v := .ref (ad 1)) hx hb hts hi_X5 hown hK hP kX_0 rfl 0 (by decide) hw0 rfl dX5_areTwoFeatures_12 ?_
    refine lv_iload_n hx hb dX5_areTwoFeatures_15 rfl (lv_at hl 2 rfl) ?_
    refine zc_i (zc_runV (As := [.int x2]) (rest := []) ⟨hx, hb, hml, hown, hts⟩ (c_X2_hasFeature l D cc A ad rs 1 sS1 x2 μ2 _ h) (cwV 1 hts gX5_areTwoFeatures_X2_hasFeature rfl rfl rfl (by decide +kernel) ⟨Nat.le_of_ble_eq_true rfl, Nat.le_of_ble_eq_true rfl⟩) (oS sS1) rfl hK hN hP hD rfl hl.1 rfl (Nat.le_of_ble_eq_true rfl) dX5_areTwoFeatures_16 ⟨Nat.zero_le _, Nat.zero_le _⟩) hS (fun r4 μ5 H locs h hP hD hS => ?_)
    refine lv_if_eq (tgt := 31) hx hb dX5_areTwoFeatures_19 (by decide) (fun c6 => ?_) (fun c6 => ?_)
    · have h := h.1 c6
      refine lv_iconst (v := 0) hx hb dX5_areTwoFeatures_31 (by decide) ?_
      exact W.zret (ty := .boolean) (v := 0) hx hb hr rfl (fun t ht hW => ⟨⟨0, μ5, rfl, h, PW.to hK hN hP hD t ht hW⟩, hS.F ht⟩) hS.2.2 dX5_areTwoFeatures_32
    · have h := h.2 c6
      refine lv_iload_n hx hb dX5_areTwoFeatures_22 rfl (lv_at hl 1 rfl) ?_
      refine lv_iload_n hx hb dX5_areTwoFeatures_23 rfl (lv_at hl 2 rfl) ?_
      refine lv_icmp_eq (tgt := 31) hx hb dX5_areTwoFeatures_24 (by decide) (fun c7 => ?_) (fun c7 => ?_)
      · have h := h.1 c7
        refine lv_iconst (v := 0) hx hb dX5_areTwoFeatures_31 (by decide) ?_
        exact W.zret (ty := .boolean) (v := 0) hx hb hr rfl (fun t ht hW => ⟨⟨0, μ5, rfl, h, PW.to hK hN hP hD t ht hW⟩, hS.F ht⟩) hS.2.2 dX5_areTwoFeatures_32
      · have h := h.2 c7
        refine lv_iconst (v := 1) hx hb dX5_areTwoFeatures_27 (by decide) ?_
        refine lv_goto (tgt := 32) hx hb dX5_areTwoFeatures_28 (by decide) ?_
        exact W.zret (ty := .boolean) (v := 1) hx hb hr rfl (fun t ht hW => ⟨⟨1, μ5, rfl, h, PW.to hK hN hP hD t ht hW⟩, hS.F ht⟩) hS.2.2 dX5_areTwoFeatures_32
set_option maxHeartbeats 4000000 in
set_option maxRecDepth 100000 in
theorem c_X5_findWitness (l : Launch) (D : va_G) (cc : Nat → ClassId) (A : Nat → Prop) (ad : Nat → Nat) (rs : va_W) (x1 : Int32) (x2 : Int32) (μ : Mem) (K : Int32 → Mem → Prop) (h : f_X5_findWitness x1 x2 μ K) : Met l yX5_findWitness wsX5_findWitness ({ frames := 3, cells := 0, slots := 0, locals := 68 }) (va_Pc [.ref (ad 0), .int x1, .int x2] (PW shX 67 D cc A ad rs μ)) (va_Qi K (PW shX 67 D cc A ad rs) A) 0 0 A := by
  refine Met.ofW (cc := cX5_findWitness) (maxL := 3) (ret := (some .boolean)) (by decide) rfl ?_
  intro p e s m args below meth c s₁ BB hml hv
  obtain ⟨rfl, hP, hK, hD, hN⟩ := hv
  have hx := BB.exec
  have hb := BB.bytes
  have hr := BB.returns
  have hts := atoms_spec (ws := wsX5_findWitness) BB.pre
  have hown : s.vm.findClass RX5 = some m.cls := findClass_of_methodNamed BB.named
  have hlocks := BB.notSynchronized
  have hi_X5 : ∀ w ∈ u_ws RX5 TX5 12, w ∈ wsX5_findWitness := by decide +kernel
  have hi_X2 : ∀ w ∈ u_ws RX2 TX2 7, w ∈ wsX5_findWitness := by decide +kernel
  have hi_X0 : ∀ w ∈ u_ws RX0 TX0 9, w ∈ wsX5_findWitness := by decide +kernel
  have hw0 := hts (.fieldLink RX5 12 "FeatureClashes" "setup" "LFeatureClashes$Setup;") (by decide +kernel)
  have hw1 := hts (.fieldLink RX5 96 "FeatureClashes$Setup" "base" "[I") (by decide +kernel)
  have hw2 := hts (.fieldLink RX5 109 "FeatureClashes$Setup" "edits" "[[I") (by decide +kernel)
  have hw3 := hts (.fieldLink RX5 39 "FeatureClashes" "firstMachine" "[I") (by decide +kernel)
  have hw4 := hts (.fieldLink RX5 42 "FeatureClashes" "secondMachine" "[I") (by decide +kernel)
  have hw5 := hts (.fieldLink RX5 54 "FeatureClashes" "difference" "LFeatureClashes$Difference;") (by decide +kernel)
  have hw6 := hts (.fieldLink RX5 68 "FeatureClashes$Setup" "letters" "I") (by decide +kernel)
  have hw7 := hts (.fieldLink RX5 170 "FeatureClashes$Difference" "length" "I") (by decide +kernel)
  have hS : va_S A s.heap s.heap [] := va_S.rf
  have hl := lv_entry ([.ref (ad 0), .int x1, .int x2]) (n := 3) (Nat.le_of_ble_eq_true rfl)
  rw [lg_entry_eq]
  generalize (lg_sl ([.ref (ad 0), .int x1, .int x2]) ++ List.replicate (3 - (lg_sl ([.ref (ad 0), .int x1, .int x2])).length) Slot.unset).toArray = ls at hl ⊢
  have hl : lv_has ls 3 [(0, .ref (ad 0)), (1, .int x1), (2, .int x2)] := hl
  unfold f_X5_findWitness at h
  refine lv_aload_n hx hb dX5_findWitness_0 rfl (lv_at hl 0 rfl) ?_
  refine zw_get (C := RX5) (T := TX5) (M := 12) (v := .ref (ad 1)) hx hb hts hi_X5 hown hK hP kX_0 rfl 0 (by decide) hw0 rfl dX5_findWitness_1 ?_
  refine zw_get (C := RX2) (T := TX2) (M := 7) (v := .ref (ad 2)) hx hb hts hi_X2 hown hK hP (oS sS1) rfl 4 (by decide) hw1 rfl dX5_findWitness_4 ?_
  refine lv_aload_n hx hb dX5_findWitness_7 rfl (lv_at hl 0 rfl) ?_
  refine zw_get (C := RX5) (T := TX5) (M := 12) (v := .ref (ad 1)) hx hb hts hi_X5 hown hK hP kX_0 rfl 0 (by decide) hw0 rfl dX5_findWitness_8 ?_
  refine zw_get (C := RX2) (T := TX2) (M := 7) (v := .ref (ad 3)) hx hb hts hi_X2 hown hK hP (oS sS1) rfl 5 (by decide) hw2 rfl dX5_findWitness_11 ?_
  refine lv_iload_n hx hb dX5_findWitness_14 rfl (lv_at hl 1 rfl) ?_
  obtain ⟨hi1, h⟩ := h
  refine zw_aalI hx hb hK hP (rS sS1) hi1 dX5_findWitness_15 ?_
  refine W.eq (g2 := F0 m 16 ls ([.ref (ad (4 + (x1 : Int32).toNatClampNeg)), .ref (ad 2)])) rfl ?_
  refine lv_aload_n hx hb dX5_findWitness_16 rfl (lv_at hl 0 rfl) ?_
  refine zw_get (C := RX5) (T := TX5) (M := 12) (v := .ref (ad 37)) hx hb hts hi_X5 hown hK hP kX_0 rfl 6 (by decide) hw3 rfl dX5_findWitness_17 ?_
  refine zc_v (zc_runS (As := [.ref (ad 2), .ref (ad (4 + (x1 : Int32).toNatClampNeg)), .ref (ad 37)]) (rest := []) ⟨hx, hb, hml, hown, hts⟩ (c_X5_putOn l D cc A ad rs 2 (iS1 sS1) (4 + (x1 : Int32).toNatClampNeg) (iSr sS1 (zw_lt hi1)) 37 kX_37 μ _ h) (va_cwS 3 hts gX5_findWitness_X5_putOn rfl rfl rfl (by decide +kernel) ⟨Nat.le_of_ble_eq_true rfl, Nat.le_of_ble_eq_true rfl⟩) hK hN hP hD rfl hl.1 rfl (Nat.le_of_ble_eq_true rfl) dX5_findWitness_20 ⟨Nat.zero_le _, Nat.zero_le _⟩) hS (fun μ3 H locs h hP hD hS => ?_)
  refine lv_aload_n hx hb dX5_findWitness_23 rfl (lv_at hl 0 rfl) ?_
  refine zw_get (C := RX5) (T := TX5) (M := 12) (v := .ref (ad 37)) hx hb hts hi_X5 hown hK hP kX_0 rfl 6 (by decide) hw3 rfl dX5_findWitness_24 ?_
  refine lv_aload_n hx hb dX5_findWitness_27 rfl (lv_at hl 0 rfl) ?_
  refine zw_get (C := RX5) (T := TX5) (M := 12) (v := .ref (ad 1)) hx hb hts hi_X5 hown hK hP kX_0 rfl 0 (by decide) hw0 rfl dX5_findWitness_28 ?_
  refine zw_get (C := RX2) (T := TX2) (M := 7) (v := .ref (ad 3)) hx hb hts hi_X2 hown hK hP (oS sS1) rfl 5 (by decide) hw2 rfl dX5_findWitness_31 ?_
  refine lv_iload_n hx hb dX5_findWitness_34 rfl (lv_at hl 2 rfl) ?_
  obtain ⟨hi4, h⟩ := h
  refine zw_aalI hx hb hK hP (rS sS1) hi4 dX5_findWitness_35 ?_
  refine W.eq (g2 := F0 m 36 ls ([.ref (ad (4 + (x2 : Int32).toNatClampNeg)), .ref (ad 37)])) rfl ?_
  refine lv_aload_n hx hb dX5_findWitness_36 rfl (lv_at hl 0 rfl) ?_
  refine zw_get (C := RX5) (T := TX5) (M := 12) (v := .ref (ad 37)) hx hb hts hi_X5 hown hK hP kX_0 rfl 6 (by decide) hw3 rfl dX5_findWitness_37 ?_
  refine zc_v (zc_runS (As := [.ref (ad 37), .ref (ad (4 + (x2 : Int32).toNatClampNeg)), .ref (ad 37)]) (rest := []) ⟨hx, hb, hml, hown, hts⟩ (c_X5_putOn l D cc A ad rs 37 kX_37 (4 + (x2 : Int32).toNatClampNeg) (iSr sS1 (zw_lt hi4)) 37 kX_37 μ3 _ h) (va_cwS 3 hts gX5_findWitness_X5_putOn rfl rfl rfl (by decide +kernel) ⟨Nat.le_of_ble_eq_true rfl, Nat.le_of_ble_eq_true rfl⟩) hK hN hP hD rfl hl.1 rfl (Nat.le_of_ble_eq_true rfl) dX5_findWitness_40 ⟨Nat.zero_le _, Nat.zero_le _⟩) hS (fun μ6 H locs h hP hD hS => ?_)
  refine lv_aload_n hx hb dX5_findWitness_43 rfl (lv_at hl 0 rfl) ?_
  refine zw_get (C := RX5) (T := TX5) (M := 12) (v := .ref (ad 1)) hx hb hts hi_X5 hown hK hP kX_0 rfl 0 (by decide) hw0 rfl dX5_findWitness_44 ?_
  refine zw_get (C := RX2) (T := TX2) (M := 7) (v := .ref (ad 2)) hx hb hts hi_X2 hown hK hP (oS sS1) rfl 4 (by decide) hw1 rfl dX5_findWitness_47 ?_
  refine lv_aload_n hx hb dX5_findWitness_50 rfl (lv_at hl 0 rfl) ?_
  refine zw_get (C := RX5) (T := TX5) (M := 12) (v := .ref (ad 1)) hx hb hts hi_X5 hown hK hP kX_0 rfl 0 (by decide) hw0 rfl dX5_findWitness_51 ?_
  refine zw_get (C := RX2) (T := TX2) (M := 7) (v := .ref (ad 3)) hx hb hts hi_X2 hown hK hP (oS sS1) rfl 5 (by decide) hw2 rfl dX5_findWitness_54 ?_
  refine lv_iload_n hx hb dX5_findWitness_57 rfl (lv_at hl 2 rfl) ?_
  obtain ⟨hi7, h⟩ := h
  refine zw_aalI hx hb hK hP (rS sS1) hi7 dX5_findWitness_58 ?_
  refine W.eq (g2 := F0 m 59 ls ([.ref (ad (4 + (x2 : Int32).toNatClampNeg)), .ref (ad 2)])) rfl ?_
  refine lv_aload_n hx hb dX5_findWitness_59 rfl (lv_at hl 0 rfl) ?_
  refine zw_get (C := RX5) (T := TX5) (M := 12) (v := .ref (ad 38)) hx hb hts hi_X5 hown hK hP kX_0 rfl 7 (by decide) hw4 rfl dX5_findWitness_60 ?_
  refine zc_v (zc_runS (As := [.ref (ad 2), .ref (ad (4 + (x2 : Int32).toNatClampNeg)), .ref (ad 38)]) (rest := []) ⟨hx, hb, hml, hown, hts⟩ (c_X5_putOn l D cc A ad rs 2 (iS1 sS1) (4 + (x2 : Int32).toNatClampNeg) (iSr sS1 (zw_lt hi7)) 38 kX_38 μ6 _ h) (va_cwS 3 hts gX5_findWitness_X5_putOn rfl rfl rfl (by decide +kernel) ⟨Nat.le_of_ble_eq_true rfl, Nat.le_of_ble_eq_true rfl⟩) hK hN hP hD rfl hl.1 rfl (Nat.le_of_ble_eq_true rfl) dX5_findWitness_63 ⟨Nat.zero_le _, Nat.zero_le _⟩) hS (fun μ9 H locs h hP hD hS => ?_)
  refine lv_aload_n hx hb dX5_findWitness_66 rfl (lv_at hl 0 rfl) ?_
  refine zw_get (C := RX5) (T := TX5) (M := 12) (v := .ref (ad 38)) hx hb hts hi_X5 hown hK hP kX_0 rfl 7 (by decide) hw4 rfl dX5_findWitness_67 ?_
  refine lv_aload_n hx hb dX5_findWitness_70 rfl (lv_at hl 0 rfl) ?_
  refine zw_get (C := RX5) (T := TX5) (M := 12) (v := .ref (ad 1)) hx hb hts hi_X5 hown hK hP kX_0 rfl 0 (by decide) hw0 rfl dX5_findWitness_71 ?_
  refine zw_get (C := RX2) (T := TX2) (M := 7) (v := .ref (ad 3)) hx hb hts hi_X2 hown hK hP (oS sS1) rfl 5 (by decide) hw2 rfl dX5_findWitness_74 ?_
  refine lv_iload_n hx hb dX5_findWitness_77 rfl (lv_at hl 1 rfl) ?_
  obtain ⟨hi10, h⟩ := h
  refine zw_aalI hx hb hK hP (rS sS1) hi10 dX5_findWitness_78 ?_
  refine W.eq (g2 := F0 m 79 ls ([.ref (ad (4 + (x1 : Int32).toNatClampNeg)), .ref (ad 38)])) rfl ?_
  refine lv_aload_n hx hb dX5_findWitness_79 rfl (lv_at hl 0 rfl) ?_
  refine zw_get (C := RX5) (T := TX5) (M := 12) (v := .ref (ad 38)) hx hb hts hi_X5 hown hK hP kX_0 rfl 7 (by decide) hw4 rfl dX5_findWitness_80 ?_
  refine zc_v (zc_runS (As := [.ref (ad 38), .ref (ad (4 + (x1 : Int32).toNatClampNeg)), .ref (ad 38)]) (rest := []) ⟨hx, hb, hml, hown, hts⟩ (c_X5_putOn l D cc A ad rs 38 kX_38 (4 + (x1 : Int32).toNatClampNeg) (iSr sS1 (zw_lt hi10)) 38 kX_38 μ9 _ h) (va_cwS 3 hts gX5_findWitness_X5_putOn rfl rfl rfl (by decide +kernel) ⟨Nat.le_of_ble_eq_true rfl, Nat.le_of_ble_eq_true rfl⟩) hK hN hP hD rfl hl.1 rfl (Nat.le_of_ble_eq_true rfl) dX5_findWitness_83 ⟨Nat.zero_le _, Nat.zero_le _⟩) hS (fun μ12 H locs h hP hD hS => ?_)
  refine lv_aload_n hx hb dX5_findWitness_86 rfl (lv_at hl 0 rfl) ?_
  refine zw_get (C := RX5) (T := TX5) (M := 12) (v := .ref (ad 41)) hx hb hts hi_X5 hown hK hP kX_0 rfl 10 (by decide) hw5 rfl dX5_findWitness_87 ?_
  refine lv_aload_n hx hb dX5_findWitness_90 rfl (lv_at hl 0 rfl) ?_
  refine zw_get (C := RX5) (T := TX5) (M := 12) (v := .ref (ad 37)) hx hb hts hi_X5 hown hK hP kX_0 rfl 6 (by decide) hw3 rfl dX5_findWitness_91 ?_
  refine lv_aload_n hx hb dX5_findWitness_94 rfl (lv_at hl 0 rfl) ?_
  refine zw_get (C := RX5) (T := TX5) (M := 12) (v := .ref (ad 38)) hx hb hts hi_X5 hown hK hP kX_0 rfl 7 (by decide) hw4 rfl dX5_findWitness_95 ?_
  refine lv_aload_n hx hb dX5_findWitness_98 rfl (lv_at hl 0 rfl) ?_
  refine zw_get (C := RX5) (T := TX5) (M := 12) (v := .ref (ad 1)) hx hb hts hi_X5 hown hK hP kX_0 rfl 0 (by decide) hw0 rfl dX5_findWitness_99 ?_
  refine zw_get (C := RX2) (T := TX2) (M := 7) (v := .int (μ12.1 1 1)) hx hb hts hi_X2 hown hK hP (oS sS1) rfl 1 (by decide) hw6 rfl dX5_findWitness_102 ?_
  refine zc_v (zc_runV (As := [.ref (ad 37), .ref (ad 38), .int (μ12.1 1 1)]) (rest := []) ⟨hx, hb, hml, hown, hts⟩ (c_X0_search l D cc A ad rs 37 kX_37 38 kX_38 (μ12.1 1 1) μ12 _ h) (cwV 3 hts gX5_findWitness_X0_search rfl rfl rfl (by decide +kernel) ⟨Nat.le_of_ble_eq_true rfl, Nat.le_of_ble_eq_true rfl⟩) kX_41 rfl hK hN hP hD rfl hl.1 rfl (Nat.le_of_ble_eq_true rfl) dX5_findWitness_105 ⟨Nat.zero_le _, Nat.zero_le _⟩) hS (fun μ14 H locs h hP hD hS => ?_)
  refine lv_aload_n hx hb dX5_findWitness_108 rfl (lv_at hl 0 rfl) ?_
  refine zw_get (C := RX5) (T := TX5) (M := 12) (v := .ref (ad 41)) hx hb hts hi_X5 hown hK hP kX_0 rfl 10 (by decide) hw5 rfl dX5_findWitness_109 ?_
  refine zw_get (C := RX0) (T := TX0) (M := 9) (v := .int (μ14.1 41 0)) hx hb hts hi_X0 hown hK hP kX_41 rfl 0 (by decide) hw7 rfl dX5_findWitness_112 ?_
  refine lv_if_le (tgt := 122) hx hb dX5_findWitness_115 (by decide) (fun c15 => ?_) (fun c15 => ?_)
  · have h := h.1 c15
    refine lv_iconst (v := 0) hx hb dX5_findWitness_122 (by decide) ?_
    exact W.zret (ty := .boolean) (v := 0) hx hb hr rfl (fun t ht hW => ⟨⟨0, μ14, rfl, h, PW.to hK hN hP hD t ht hW⟩, hS.F ht⟩) hS.2.2 dX5_findWitness_123
  · have h := h.2 c15
    refine lv_iconst (v := 1) hx hb dX5_findWitness_118 (by decide) ?_
    refine lv_goto (tgt := 123) hx hb dX5_findWitness_119 (by decide) ?_
    exact W.zret (ty := .boolean) (v := 1) hx hb hr rfl (fun t ht hW => ⟨⟨1, μ14, rfl, h, PW.to hK hN hP hD t ht hW⟩, hS.F ht⟩) hS.2.2 dX5_findWitness_123
set_option maxHeartbeats 4000000 in
set_option maxRecDepth 100000 in
theorem c_X5_clash (l : Launch) (D : va_G) (cc : Nat → ClassId) (A : Nat → Prop) (ad : Nat → Nat) (rs : va_W) (x1 : Int32) (x2 : Int32) (μ : Mem) (K : Int32 → Mem → Prop) (h : f_X5_clash x1 x2 μ K) : Met l yX5_clash wsX5_clash ({ frames := 4, cells := 0, slots := 0, locals := 90 }) (va_Pc [.ref (ad 0), .int x1, .int x2] (PW shX 67 D cc A ad rs μ)) (va_Qi K (PW shX 67 D cc A ad rs) A) 0 0 A := by
  refine Met.ofW (cc := cX5_clash) (maxL := 3) (ret := (some .int)) (by decide) rfl ?_
  intro p e s m args below meth c s₁ BB hml hv
  obtain ⟨rfl, hP, hK, hD, hN⟩ := hv
  have hx := BB.exec
  have hb := BB.bytes
  have hr := BB.returns
  have hts := atoms_spec (ws := wsX5_clash) BB.pre
  have hown : s.vm.findClass RX5 = some m.cls := findClass_of_methodNamed BB.named
  have hlocks := BB.notSynchronized
  have hS : va_S A s.heap s.heap [] := va_S.rf
  have hl := lv_entry ([.ref (ad 0), .int x1, .int x2]) (n := 3) (Nat.le_of_ble_eq_true rfl)
  rw [lg_entry_eq]
  generalize (lg_sl ([.ref (ad 0), .int x1, .int x2]) ++ List.replicate (3 - (lg_sl ([.ref (ad 0), .int x1, .int x2])).length) Slot.unset).toArray = ls at hl ⊢
  have hl : lv_has ls 3 [(0, .ref (ad 0)), (1, .int x1), (2, .int x2)] := hl
  unfold f_X5_clash at h
  refine lv_aload_n hx hb dX5_clash_0 rfl (lv_at hl 0 rfl) ?_
  refine lv_iload_n hx hb dX5_clash_1 rfl (lv_at hl 1 rfl) ?_
  refine lv_iload_n hx hb dX5_clash_2 rfl (lv_at hl 2 rfl) ?_
  refine zc_i (zc_runV (As := [.int x1, .int x2]) (rest := []) ⟨hx, hb, hml, hown, hts⟩ (c_X5_areTwoFeatures l D cc A ad rs x1 x2 μ _ h) (cwV 2 hts gX5_clash_X5_areTwoFeatures rfl rfl rfl (by decide +kernel) ⟨Nat.le_of_ble_eq_true rfl, Nat.le_of_ble_eq_true rfl⟩) kX_0 rfl hK hN hP hD rfl hl.1 rfl (Nat.le_of_ble_eq_true rfl) dX5_clash_3 ⟨Nat.zero_le _, Nat.zero_le _⟩) hS (fun r1 μ2 H locs h hP hD hS => ?_)
  refine lv_if_ne (tgt := 11) hx hb dX5_clash_6 (by decide) (fun c3 => ?_) (fun c3 => ?_)
  · have h := h.1 c3
    refine lv_aload_n hx hb dX5_clash_11 rfl (lv_at hl 0 rfl) ?_
    refine lv_iload_n hx hb dX5_clash_12 rfl (lv_at hl 1 rfl) ?_
    refine lv_iload_n hx hb dX5_clash_13 rfl (lv_at hl 2 rfl) ?_
    refine zc_i (zc_runV (As := [.int x1, .int x2]) (rest := []) ⟨hx, hb, hml, hown, hts⟩ (c_X5_findWitness l D cc A ad rs x1 x2 μ2 _ h) (cwV 2 hts gX5_clash_X5_findWitness rfl rfl rfl (by decide +kernel) ⟨Nat.le_of_ble_eq_true rfl, Nat.le_of_ble_eq_true rfl⟩) kX_0 rfl hK hN hP hD rfl hl.1 rfl (Nat.le_of_ble_eq_true rfl) dX5_clash_14 ⟨Nat.zero_le _, Nat.zero_le _⟩) hS (fun r4 μ5 H locs h hP hD hS => ?_)
    refine lv_if_eq (tgt := 24) hx hb dX5_clash_17 (by decide) (fun c6 => ?_) (fun c6 => ?_)
    · have h := h.1 c6
      refine lv_iconst (v := 0) hx hb dX5_clash_24 (by decide) ?_
      exact W.iret (v := 0) hx hb hr (fun t ht hW => ⟨⟨0, μ5, rfl, h, PW.to hK hN hP hD t ht hW⟩, hS.F ht⟩) hS.2.2 dX5_clash_25
    · have h := h.2 c6
      refine lv_iconst (v := 1) hx hb dX5_clash_20 (by decide) ?_
      refine lv_goto (tgt := 25) hx hb dX5_clash_21 (by decide) ?_
      exact W.iret (v := 1) hx hb hr (fun t ht hW => ⟨⟨1, μ5, rfl, h, PW.to hK hN hP hD t ht hW⟩, hS.F ht⟩) hS.2.2 dX5_clash_25
  · have h := h.2 c3
    refine lv_iconst (v := (-1)) hx hb dX5_clash_9 (by decide) ?_
    exact W.iret (v := (-1)) hx hb hr (fun t ht hW => ⟨⟨(-1), μ2, rfl, h, PW.to hK hN hP hD t ht hW⟩, hS.F ht⟩) hS.2.2 dX5_clash_10
set_option maxHeartbeats 4000000 in
set_option maxRecDepth 100000 in
theorem c_X5_witness (l : Launch) (D : va_G) (cc : Nat → ClassId) (A : Nat → Prop) (ad : Nat → Nat) (rs : va_W) (x1 : Int32) (x2 : Int32) (x3 : Int32) (μ : Mem) (K : Int32 → Mem → Prop) (h : f_X5_witness x1 x2 x3 μ K) : Met l yX5_witness wsX5_witness ({ frames := 4, cells := 0, slots := 0, locals := 90 }) (va_Pc [.ref (ad 0), .int x1, .int x2, .int x3] (PW shX 67 D cc A ad rs μ)) (va_Qi K (PW shX 67 D cc A ad rs) A) 0 0 A := by
  refine Met.ofW (cc := cX5_witness) (maxL := 4) (ret := (some .int)) (by decide) rfl ?_
  intro p e s m args below meth c s₁ BB hml hv
  obtain ⟨rfl, hP, hK, hD, hN⟩ := hv
  have hx := BB.exec
  have hb := BB.bytes
  have hr := BB.returns
  have hts := atoms_spec (ws := wsX5_witness) BB.pre
  have hown : s.vm.findClass RX5 = some m.cls := findClass_of_methodNamed BB.named
  have hlocks := BB.notSynchronized
  have hi_X5 : ∀ w ∈ u_ws RX5 TX5 12, w ∈ wsX5_witness := by decide +kernel
  have hw0 := hts (.fieldLink RX5 54 "FeatureClashes" "difference" "LFeatureClashes$Difference;") (by decide +kernel)
  have hS : va_S A s.heap s.heap [] := va_S.rf
  have hl := lv_entry ([.ref (ad 0), .int x1, .int x2, .int x3]) (n := 4) (Nat.le_of_ble_eq_true rfl)
  rw [lg_entry_eq]
  generalize (lg_sl ([.ref (ad 0), .int x1, .int x2, .int x3]) ++ List.replicate (4 - (lg_sl ([.ref (ad 0), .int x1, .int x2, .int x3])).length) Slot.unset).toArray = ls at hl ⊢
  have hl : lv_has ls 4 [(0, .ref (ad 0)), (1, .int x1), (2, .int x2), (3, .int x3)] := hl
  unfold f_X5_witness at h
  refine lv_aload_n hx hb dX5_witness_0 rfl (lv_at hl 0 rfl) ?_
  refine lv_iload_n hx hb dX5_witness_1 rfl (lv_at hl 1 rfl) ?_
  refine lv_iload_n hx hb dX5_witness_2 rfl (lv_at hl 2 rfl) ?_
  refine zc_i (zc_runV (As := [.int x1, .int x2]) (rest := []) ⟨hx, hb, hml, hown, hts⟩ (c_X5_areTwoFeatures l D cc A ad rs x1 x2 μ _ h) (cwV 2 hts gX5_witness_X5_areTwoFeatures rfl rfl rfl (by decide +kernel) ⟨Nat.le_of_ble_eq_true rfl, Nat.le_of_ble_eq_true rfl⟩) kX_0 rfl hK hN hP hD rfl hl.1 rfl (Nat.le_of_ble_eq_true rfl) dX5_witness_3 ⟨Nat.zero_le _, Nat.zero_le _⟩) hS (fun r1 μ2 H locs h hP hD hS => ?_)
  refine lv_if_eq (tgt := 13) hx hb dX5_witness_6 (by decide) (fun c3 => ?_) (fun c3 => ?_)
  · have h := h.1 c3
    refine lv_iconst (v := (-1)) hx hb dX5_witness_13 (by decide) ?_
    exact W.iret (v := (-1)) hx hb hr (fun t ht hW => ⟨⟨(-1), μ2, rfl, h, PW.to hK hN hP hD t ht hW⟩, hS.F ht⟩) hS.2.2 dX5_witness_14
  · have h := h.2 c3
    refine lv_iload_n hx hb dX5_witness_9 rfl (lv_at hl 3 rfl) ?_
    refine lv_if_ge (tgt := 15) hx hb dX5_witness_10 (by decide) (fun c4 => ?_) (fun c4 => ?_)
    · have h := h.1 c4
      refine lv_aload_n hx hb dX5_witness_15 rfl (lv_at hl 0 rfl) ?_
      refine lv_iload_n hx hb dX5_witness_16 rfl (lv_at hl 1 rfl) ?_
      refine lv_iload_n hx hb dX5_witness_17 rfl (lv_at hl 2 rfl) ?_
      refine zc_i (zc_runV (As := [.int x1, .int x2]) (rest := []) ⟨hx, hb, hml, hown, hts⟩ (c_X5_findWitness l D cc A ad rs x1 x2 μ2 _ h) (cwV 2 hts gX5_witness_X5_findWitness rfl rfl rfl (by decide +kernel) ⟨Nat.le_of_ble_eq_true rfl, Nat.le_of_ble_eq_true rfl⟩) kX_0 rfl hK hN hP hD rfl hl.1 rfl (Nat.le_of_ble_eq_true rfl) dX5_witness_18 ⟨Nat.zero_le _, Nat.zero_le _⟩) hS (fun r5 μ6 H locs h hP hD hS => ?_)
      refine lv_pop hx hb dX5_witness_21 rfl ?_
      refine lv_aload_n hx hb dX5_witness_22 rfl (lv_at hl 0 rfl) ?_
      refine zw_get (C := RX5) (T := TX5) (M := 12) (v := .ref (ad 41)) hx hb hts hi_X5 hown hK hP kX_0 rfl 10 (by decide) hw0 rfl dX5_witness_23 ?_
      refine lv_iload_n hx hb dX5_witness_26 rfl (lv_at hl 3 rfl) ?_
      refine zc_i (zc_runV (As := [.int x3]) (rest := []) ⟨hx, hb, hml, hown, hts⟩ (c_X0_letterAt l D cc A ad rs x3 μ6 _ h) (cwV 1 hts gX5_witness_X0_letterAt rfl rfl rfl (by decide +kernel) ⟨Nat.le_of_ble_eq_true rfl, Nat.le_of_ble_eq_true rfl⟩) kX_41 rfl hK hN hP hD rfl hl.1 rfl (Nat.le_of_ble_eq_true rfl) dX5_witness_27 ⟨Nat.zero_le _, Nat.zero_le _⟩) hS (fun r7 μ8 H locs h hP hD hS => ?_)
      exact W.iret (v := r7) hx hb hr (fun t ht hW => ⟨⟨r7, μ8, rfl, h, PW.to hK hN hP hD t ht hW⟩, hS.F ht⟩) hS.2.2 dX5_witness_30
    · have h := h.2 c4
      refine lv_iconst (v := (-1)) hx hb dX5_witness_13 (by decide) ?_
      exact W.iret (v := (-1)) hx hb hr (fun t ht hW => ⟨⟨(-1), μ2, rfl, h, PW.to hK hN hP hD t ht hW⟩, hS.F ht⟩) hS.2.2 dX5_witness_14
set_option maxHeartbeats 4000000 in
set_option maxRecDepth 100000 in
theorem c_X5_clashes (l : Launch) (D : va_G) (cc : Nat → ClassId) (A : Nat → Prop) (ad : Nat → Nat) (rs : va_W)  (μ : Mem) (K : Int32 → Mem → Prop) (h : f_X5_clashes  μ K) : Met l yX5_clashes wsX5_clashes ({ frames := 4, cells := 0, slots := 0, locals := 90 }) (va_Pc [.ref (ad 0)] (PW shX 67 D cc A ad rs μ)) (va_Qi K (PW shX 67 D cc A ad rs) A) 0 0 A := by
  refine Met.ofW (cc := cX5_clashes) (maxL := 4) (ret := (some .int)) (by decide) rfl ?_
  intro p e s m args below meth c s₁ BB hml hv
  obtain ⟨rfl, hP, hK, hD, hN⟩ := hv
  have hx := BB.exec
  have hb := BB.bytes
  have hr := BB.returns
  have hts := atoms_spec (ws := wsX5_clashes) BB.pre
  have hown : s.vm.findClass RX5 = some m.cls := findClass_of_methodNamed BB.named
  have hlocks := BB.notSynchronized
  have hi_X5 : ∀ w ∈ u_ws RX5 TX5 12, w ∈ wsX5_clashes := by decide +kernel
  have hi_X2 : ∀ w ∈ u_ws RX2 TX2 7, w ∈ wsX5_clashes := by decide +kernel
  have hw0 := hts (.fieldLink RX5 12 "FeatureClashes" "setup" "LFeatureClashes$Setup;") (by decide +kernel)
  have hw1 := hts (.fieldLink RX5 99 "FeatureClashes$Setup" "featureCount" "I") (by decide +kernel)
  have hS : va_S A s.heap s.heap [] := va_S.rf
  have hl := lv_entry ([.ref (ad 0)]) (n := 4) (Nat.le_of_ble_eq_true rfl)
  rw [lg_entry_eq]
  generalize (lg_sl ([.ref (ad 0)]) ++ List.replicate (4 - (lg_sl ([.ref (ad 0)])).length) Slot.unset).toArray = ls at hl ⊢
  have hl : lv_has ls 4 [(0, .ref (ad 0))] := hl
  unfold f_X5_clashes at h
  refine (fun h => ?main) (h (fun b1 b2 μ => ∀ (H1 : Heap) (locs : List Loc) (ls : Array Slot), va_P D vwCl (wW shX 67 cc ad μ ++ rs) H1 → va_D A (wW shX 67 cc ad μ ++ rs) → va_S A s.heap H1 locs → lv_has ls 4 [(0, .ref (ad 0)), (1, .int b1), (2, .int b2)] → W p l e (headSpec wsX5_clashes ({ frames := 4, cells := 0, slots := 0, locals := 90 })).room s m ([.ref (ad 0)] : List Value).toArray below meth c H1 locs 0 0 (MQ below (va_Qi K (PW shX 67 D cc A ad rs) A) ([.ref (ad 0)] : List Value).toArray s 0 0 A) (F0 m 4 ls ([]))) (fun b1 b2 b3 μ => ∀ (H1 : Heap) (locs : List Loc) (ls : Array Slot), va_P D vwCl (wW shX 67 cc ad μ ++ rs) H1 → va_D A (wW shX 67 cc ad μ ++ rs) → va_S A s.heap H1 locs → lv_has ls 4 [(0, .ref (ad 0)), (1, .int b1), (2, .int b2), (3, .int b3)] → W p l e (headSpec wsX5_clashes ({ frames := 4, cells := 0, slots := 0, locals := 90 })).room s m ([.ref (ad 0)] : List Value).toArray below meth c H1 locs 0 0 (MQ below (va_Qi K (PW shX 67 D cc A ad rs) A) ([.ref (ad 0)] : List Value).toArray s 0 0 A) (F0 m 19 ls ([]))) (fun b1 b2 b3 μ => ∀ (H1 : Heap) (locs : List Loc) (ls : Array Slot), va_P D vwCl (wW shX 67 cc ad μ ++ rs) H1 → va_D A (wW shX 67 cc ad μ ++ rs) → va_S A s.heap H1 locs → lv_has ls 4 [(0, .ref (ad 0)), (1, .int b1), (2, .int b2), (3, .int b3)] → W p l e (headSpec wsX5_clashes ({ frames := 4, cells := 0, slots := 0, locals := 90 })).room s m ([.ref (ad 0)] : List Value).toArray below meth c H1 locs 0 0 (MQ below (va_Qi K (PW shX 67 D cc A ad rs) A) ([.ref (ad 0)] : List Value).toArray s 0 0 A) (F0 m 64 ls ([]))) ?b4 ?b19 ?b64)
  case main =>
      refine lv_iconst (v := 0) hx hb dX5_clashes_0 (by decide) ?_
      refine lv_istore_n (lv' := [(1, .int 0), (0, .ref (ad 0))]) hx hb dX5_clashes_1 rfl hl (by decide) rfl (fun ls hl => ?_)
      refine lv_iconst (v := 0) hx hb dX5_clashes_2 (by decide) ?_
      refine lv_istore_n (lv' := [(2, .int 0), (1, .int 0), (0, .ref (ad 0))]) hx hb dX5_clashes_3 rfl hl (by decide) rfl (fun ls hl => ?_)
      exact h _ _ _ hP hD hS (lv_sub hl [2, 1, 0] rfl)
  case b4 =>
    intro b1 b2 μ h H locs ls hP hD hS hl
    refine lv_iload_n hx hb dX5_clashes_4 rfl (lv_at hl 2 rfl) ?_
    refine lv_aload_n hx hb dX5_clashes_5 rfl (lv_at hl 0 rfl) ?_
    refine zw_get (C := RX5) (T := TX5) (M := 12) (v := .ref (ad 1)) hx hb hts hi_X5 hown hK hP kX_0 rfl 0 (by decide) hw0 rfl dX5_clashes_6 ?_
    refine zw_get (C := RX2) (T := TX2) (M := 7) (v := .int (μ.1 1 2)) hx hb hts hi_X2 hown hK hP (oS sS1) rfl 2 (by decide) hw1 rfl dX5_clashes_9 ?_
    refine lv_icmp_ge (tgt := 76) hx hb dX5_clashes_12 (by decide) (fun c1 => ?_) (fun c1 => ?_)
    · have h := h.1 c1
      refine lv_iload_n hx hb dX5_clashes_76 rfl (lv_at hl 1 rfl) ?_
      exact W.iret (v := b1) hx hb hr (fun t ht hW => ⟨⟨b1, μ, rfl, h, PW.to hK hN hP hD t ht hW⟩, hS.F ht⟩) hS.2.2 dX5_clashes_77
    · have h := h.2 c1
      refine lv_iload_n hx hb dX5_clashes_15 rfl (lv_at hl 2 rfl) ?_
      refine lv_iconst (v := 1) hx hb dX5_clashes_16 (by decide) ?_
      refine lv_iadd hx hb dX5_clashes_17 ?_
      refine lv_topi (fun y2 ey2 => ?_)
      have h := h y2 ey2
      refine lv_istore_n (lv' := [(3, .int y2), (0, .ref (ad 0)), (1, .int b1), (2, .int b2)]) hx hb dX5_clashes_18 rfl hl (by decide) rfl (fun ls hl => ?_)
      exact h _ _ _ hP hD hS (lv_sub hl [1, 2, 3, 0] rfl)
  case b19 =>
    intro b1 b2 b3 μ h H locs ls hP hD hS hl
    refine lv_iload_n hx hb dX5_clashes_19 rfl (lv_at hl 3 rfl) ?_
    refine lv_aload_n hx hb dX5_clashes_20 rfl (lv_at hl 0 rfl) ?_
    refine zw_get (C := RX5) (T := TX5) (M := 12) (v := .ref (ad 1)) hx hb hts hi_X5 hown hK hP kX_0 rfl 0 (by decide) hw0 rfl dX5_clashes_21 ?_
    refine zw_get (C := RX2) (T := TX2) (M := 7) (v := .int (μ.1 1 2)) hx hb hts hi_X2 hown hK hP (oS sS1) rfl 2 (by decide) hw1 rfl dX5_clashes_24 ?_
    refine lv_icmp_ge (tgt := 70) hx hb dX5_clashes_27 (by decide) (fun c3 => ?_) (fun c3 => ?_)
    · have h := h.1 c3
      obtain ⟨y4, ey4⟩ : ∃ y : Int32, y = b2 + 1 := ⟨_, rfl⟩
      have h := h y4 ey4
      refine lv_iinc (v := y4) (lv' := [(2, .int y4), (0, .ref (ad 0)), (1, .int b1), (3, .int b3)]) hx hb dX5_clashes_70 hl (k := 2) rfl (by rw [ey4]; rfl) (by decide) rfl (fun ls hl => ?_)
      refine lv_goto (tgt := 4) hx hb dX5_clashes_73 (by decide) ?_
      exact h _ _ _ hP hD hS (lv_sub hl [1, 2, 0] rfl)
    · have h := h.2 c3
      refine lv_aload_n hx hb dX5_clashes_30 rfl (lv_at hl 0 rfl) ?_
      refine zw_get (C := RX5) (T := TX5) (M := 12) (v := .ref (ad 1)) hx hb hts hi_X5 hown hK hP kX_0 rfl 0 (by decide) hw0 rfl dX5_clashes_31 ?_
      refine lv_iload_n hx hb dX5_clashes_34 rfl (lv_at hl 2 rfl) ?_
      refine zc_i (zc_runV (As := [.int b2]) (rest := []) ⟨hx, hb, hml, hown, hts⟩ (c_X2_isOn l D cc A ad rs 1 sS1 b2 μ _ h) (cwV 1 hts gX5_clashes_X2_isOn rfl rfl rfl (by decide +kernel) ⟨Nat.le_of_ble_eq_true rfl, Nat.le_of_ble_eq_true rfl⟩) (oS sS1) rfl hK hN hP hD rfl hl.1 rfl (Nat.le_of_ble_eq_true rfl) dX5_clashes_35 ⟨Nat.zero_le _, Nat.zero_le _⟩) hS (fun r5 μ6 H locs h hP hD hS => ?_)
      refine lv_if_eq (tgt := 64) hx hb dX5_clashes_38 (by decide) (fun c7 => ?_) (fun c7 => ?_)
      · have h := h.1 c7
        exact h _ _ _ hP hD hS (lv_sub hl [0, 1, 2, 3] rfl)
      · have h := h.2 c7
        refine lv_aload_n hx hb dX5_clashes_41 rfl (lv_at hl 0 rfl) ?_
        refine zw_get (C := RX5) (T := TX5) (M := 12) (v := .ref (ad 1)) hx hb hts hi_X5 hown hK hP kX_0 rfl 0 (by decide) hw0 rfl dX5_clashes_42 ?_
        refine lv_iload_n hx hb dX5_clashes_45 rfl (lv_at hl 3 rfl) ?_
        refine zc_i (zc_runV (As := [.int b3]) (rest := []) ⟨hx, hb, hml, hown, hts⟩ (c_X2_isOn l D cc A ad rs 1 sS1 b3 μ6 _ h) (cwV 1 hts gX5_clashes_X2_isOn rfl rfl rfl (by decide +kernel) ⟨Nat.le_of_ble_eq_true rfl, Nat.le_of_ble_eq_true rfl⟩) (oS sS1) rfl hK hN hP hD rfl hl.1 rfl (Nat.le_of_ble_eq_true rfl) dX5_clashes_46 ⟨Nat.zero_le _, Nat.zero_le _⟩) hS (fun r8 μ9 H locs h hP hD hS => ?_)
        refine lv_if_eq (tgt := 64) hx hb dX5_clashes_49 (by decide) (fun c10 => ?_) (fun c10 => ?_)
        · have h := h.1 c10
          exact h _ _ _ hP hD hS (lv_sub hl [0, 1, 2, 3] rfl)
        · have h := h.2 c10
          refine lv_aload_n hx hb dX5_clashes_52 rfl (lv_at hl 0 rfl) ?_
          refine lv_iload_n hx hb dX5_clashes_53 rfl (lv_at hl 2 rfl) ?_
          refine lv_iload_n hx hb dX5_clashes_54 rfl (lv_at hl 3 rfl) ?_
          refine zc_i (zc_runV (As := [.int b2, .int b3]) (rest := []) ⟨hx, hb, hml, hown, hts⟩ (c_X5_findWitness l D cc A ad rs b2 b3 μ9 _ h) (cwV 2 hts gX5_clashes_X5_findWitness rfl rfl rfl (by decide +kernel) ⟨Nat.le_of_ble_eq_true rfl, Nat.le_of_ble_eq_true rfl⟩) kX_0 rfl hK hN hP hD rfl hl.1 rfl (Nat.le_of_ble_eq_true rfl) dX5_clashes_55 ⟨Nat.zero_le _, Nat.zero_le _⟩) hS (fun r11 μ12 H locs h hP hD hS => ?_)
          refine lv_if_eq (tgt := 64) hx hb dX5_clashes_58 (by decide) (fun c13 => ?_) (fun c13 => ?_)
          · have h := h.1 c13
            exact h _ _ _ hP hD hS (lv_sub hl [0, 1, 2, 3] rfl)
          · have h := h.2 c13
            obtain ⟨y14, ey14⟩ : ∃ y : Int32, y = b1 + 1 := ⟨_, rfl⟩
            have h := h y14 ey14
            refine lv_iinc (v := y14) (lv' := [(1, .int y14), (0, .ref (ad 0)), (2, .int b2), (3, .int b3)]) hx hb dX5_clashes_61 hl (k := 1) rfl (by rw [ey14]; rfl) (by decide) rfl (fun ls hl => ?_)
            exact h _ _ _ hP hD hS (lv_sub hl [1, 0, 2, 3] rfl)
  case b64 =>
    intro b1 b2 b3 μ h H locs ls hP hD hS hl
    obtain ⟨y15, ey15⟩ : ∃ y : Int32, y = b3 + 1 := ⟨_, rfl⟩
    have h := h y15 ey15
    refine lv_iinc (v := y15) (lv' := [(3, .int y15), (0, .ref (ad 0)), (1, .int b1), (2, .int b2)]) hx hb dX5_clashes_64 hl (k := 3) rfl (by rw [ey15]; rfl) (by decide) rfl (fun ls hl => ?_)
    refine lv_goto (tgt := 19) hx hb dX5_clashes_67 (by decide) ?_
    exact h _ _ _ hP hD hS (lv_sub hl [1, 2, 3, 0] rfl)
set_option maxHeartbeats 4000000 in
set_option maxRecDepth 100000 in
theorem c_X5_results (l : Launch) (D : va_G) (cc : Nat → ClassId) (A : Nat → Prop) (ad : Nat → Nat) (rs : va_W)  (μ : Mem) (K : Int32 → Mem → Prop) (h : f_X5_results  μ K) : Met l yX5_results wsX5_results ({ frames := 14, cells := 0, slots := 0, locals := 358 }) (va_Pc [.ref (ad 0)] (PW shX 67 D cc A ad rs μ)) (va_Qi K (PW shX 67 D cc A ad rs) A) 0 0 A := by
  refine Met.ofW (cc := cX5_results) (maxL := 1) (ret := (some .int)) (by decide) rfl ?_
  intro p e s m args below meth c s₁ BB hml hv
  obtain ⟨rfl, hP, hK, hD, hN⟩ := hv
  have hx := BB.exec
  have hb := BB.bytes
  have hr := BB.returns
  have hts := atoms_spec (ws := wsX5_results) BB.pre
  have hown : s.vm.findClass RX5 = some m.cls := findClass_of_methodNamed BB.named
  have hlocks := BB.notSynchronized
  have hi_X5 : ∀ w ∈ u_ws RX5 TX5 12, w ∈ wsX5_results := by decide +kernel
  have hw0 := hts (.fieldLink RX5 61 "FeatureClashes" "outcomes" "LFeatureClashes$Outcomes;") (by decide +kernel)
  have hw1 := hts (.fieldLink RX5 12 "FeatureClashes" "setup" "LFeatureClashes$Setup;") (by decide +kernel)
  have hS : va_S A s.heap s.heap [] := va_S.rf
  have hl := lv_entry ([.ref (ad 0)]) (n := 1) (Nat.le_of_ble_eq_true rfl)
  rw [lg_entry_eq]
  generalize (lg_sl ([.ref (ad 0)]) ++ List.replicate (1 - (lg_sl ([.ref (ad 0)])).length) Slot.unset).toArray = ls at hl ⊢
  have hl : lv_has ls 1 [(0, .ref (ad 0))] := hl
  unfold f_X5_results at h
  refine lv_aload_n hx hb dX5_results_0 rfl (lv_at hl 0 rfl) ?_
  refine zw_get (C := RX5) (T := TX5) (M := 12) (v := .ref (ad 49)) hx hb hts hi_X5 hown hK hP kX_0 rfl 11 (by decide) hw0 rfl dX5_results_1 ?_
  refine lv_aload_n hx hb dX5_results_4 rfl (lv_at hl 0 rfl) ?_
  refine zw_get (C := RX5) (T := TX5) (M := 12) (v := .ref (ad 1)) hx hb hts hi_X5 hown hK hP kX_0 rfl 0 (by decide) hw1 rfl dX5_results_5 ?_
  refine lv_iconst (v := 0) hx hb dX5_results_8 (by decide) ?_
  refine lv_sipush (v := 720) hx hb dX5_results_9 (by decide) ?_
  refine zc_i (zc_runV (As := [.ref (ad 1), .int 0, .int 720]) (rest := []) ⟨hx, hb, hml, hown, hts⟩ (c_X1_countKinds l D cc A ad rs 1 sS1 0 720 μ _ h) (cwV 3 hts gX5_results_X1_countKinds rfl rfl rfl (by decide +kernel) ⟨Nat.le_of_ble_eq_true rfl, Nat.le_of_ble_eq_true rfl⟩) kX_49 rfl hK hN hP hD rfl hl.1 rfl (Nat.le_of_ble_eq_true rfl) dX5_results_12 ⟨Nat.zero_le _, Nat.zero_le _⟩) hS (fun r1 μ2 H locs h hP hD hS => ?_)
  exact W.iret (v := r1) hx hb hr (fun t ht hW => ⟨⟨r1, μ2, rfl, h, PW.to hK hN hP hD t ht hW⟩, hS.F ht⟩) hS.2.2 dX5_results_15
set_option maxHeartbeats 4000000 in
set_option maxRecDepth 100000 in
theorem c_X5_reachedStates (l : Launch) (D : va_G) (cc : Nat → ClassId) (A : Nat → Prop) (ad : Nat → Nat) (rs : va_W) (p1 : Nat) (hp1 : isI shX 67 p1 32) (μ : Mem) (K : Int32 → Mem → Prop) (h : f_X5_reachedStates p1 μ K) : Met l yX5_reachedStates wsX5_reachedStates ({ frames := 1, cells := 0, slots := 0, locals := 21 }) (va_Pc [.ref (ad 0), .ref (ad p1)] (PW shX 67 D cc A ad rs μ)) (va_Qi K (PW shX 67 D cc A ad rs) A) 0 0 A := by
  refine Met.ofW (cc := cX5_reachedStates) (maxL := 5) (ret := (some .int)) (by decide) rfl ?_
  intro p e s m args below meth c s₁ BB hml hv
  obtain ⟨rfl, hP, hK, hD, hN⟩ := hv
  have hx := BB.exec
  have hb := BB.bytes
  have hr := BB.returns
  have hts := atoms_spec (ws := wsX5_reachedStates) BB.pre
  have hown : s.vm.findClass RX5 = some m.cls := findClass_of_methodNamed BB.named
  have hlocks := BB.notSynchronized
  have hi_X5 : ∀ w ∈ u_ws RX5 TX5 12, w ∈ wsX5_reachedStates := by decide +kernel
  have hi_X2 : ∀ w ∈ u_ws RX2 TX2 7, w ∈ wsX5_reachedStates := by decide +kernel
  have hw0 := hts (.fieldLink RX5 12 "FeatureClashes" "setup" "LFeatureClashes$Setup;") (by decide +kernel)
  have hw1 := hts (.fieldLink RX5 65 "FeatureClashes$Setup" "states" "I") (by decide +kernel)
  have hS : va_S A s.heap s.heap [] := va_S.rf
  have hl := lv_entry ([.ref (ad 0), .ref (ad p1)]) (n := 5) (Nat.le_of_ble_eq_true rfl)
  rw [lg_entry_eq]
  generalize (lg_sl ([.ref (ad 0), .ref (ad p1)]) ++ List.replicate (5 - (lg_sl ([.ref (ad 0), .ref (ad p1)])).length) Slot.unset).toArray = ls at hl ⊢
  have hl : lv_has ls 5 [(0, .ref (ad 0)), (1, .ref (ad p1))] := hl
  unfold f_X5_reachedStates at h
  refine (fun h => ?main) (h (fun b2 b3 μ => ∀ (H1 : Heap) (locs : List Loc) (ls : Array Slot), va_P D vwCl (wW shX 67 cc ad μ ++ rs) H1 → va_D A (wW shX 67 cc ad μ ++ rs) → va_S A s.heap H1 locs → lv_has ls 5 [(0, .ref (ad 0)), (1, .ref (ad p1)), (2, .int b2), (3, .int b3)] → W p l e (headSpec wsX5_reachedStates ({ frames := 1, cells := 0, slots := 0, locals := 21 })).room s m ([.ref (ad 0), .ref (ad p1)] : List Value).toArray below meth c H1 locs 0 0 (MQ below (va_Qi K (PW shX 67 D cc A ad rs) A) ([.ref (ad 0), .ref (ad p1)] : List Value).toArray s 0 0 A) (F0 m 4 ls ([]))) (fun b2 b3 b4 μ => ∀ (H1 : Heap) (locs : List Loc) (ls : Array Slot), va_P D vwCl (wW shX 67 cc ad μ ++ rs) H1 → va_D A (wW shX 67 cc ad μ ++ rs) → va_S A s.heap H1 locs → lv_has ls 5 [(0, .ref (ad 0)), (1, .ref (ad p1)), (2, .int b2), (3, .int b3), (4, .int b4)] → W p l e (headSpec wsX5_reachedStates ({ frames := 1, cells := 0, slots := 0, locals := 21 })).room s m ([.ref (ad 0), .ref (ad p1)] : List Value).toArray below meth c H1 locs 0 0 (MQ below (va_Qi K (PW shX 67 D cc A ad rs) A) ([.ref (ad 0), .ref (ad p1)] : List Value).toArray s 0 0 A) (F0 m 18 ls ([]))) (fun b2 b3 b4 μ => ∀ (H1 : Heap) (locs : List Loc) (ls : Array Slot), va_P D vwCl (wW shX 67 cc ad μ ++ rs) H1 → va_D A (wW shX 67 cc ad μ ++ rs) → va_S A s.heap H1 locs → lv_has ls 5 [(0, .ref (ad 0)), (1, .ref (ad p1)), (2, .int b2), (3, .int b3), (4, .int b4)] → W p l e (headSpec wsX5_reachedStates ({ frames := 1, cells := 0, slots := 0, locals := 21 })).room s m ([.ref (ad 0), .ref (ad p1)] : List Value).toArray below meth c H1 locs 0 0 (MQ below (va_Qi K (PW shX 67 D cc A ad rs) A) ([.ref (ad 0), .ref (ad p1)] : List Value).toArray s 0 0 A) (F0 m 56 ls ([]))) ?b4 ?b18 ?b56)
  case main =>
      refine lv_iconst (v := 1) hx hb dX5_reachedStates_0 (by decide) ?_
      refine lv_istore_n (lv' := [(2, .int 1), (0, .ref (ad 0)), (1, .ref (ad p1))]) hx hb dX5_reachedStates_1 rfl hl (by decide) rfl (fun ls hl => ?_)
      refine lv_iconst (v := 1) hx hb dX5_reachedStates_2 (by decide) ?_
      refine lv_istore_n (lv' := [(3, .int 1), (2, .int 1), (0, .ref (ad 0)), (1, .ref (ad p1))]) hx hb dX5_reachedStates_3 rfl hl (by decide) rfl (fun ls hl => ?_)
      exact h _ _ _ hP hD hS (lv_sub hl [2, 3, 1, 0] rfl)
  case b4 =>
    intro b2 b3 μ h H locs ls hP hD hS hl
    refine lv_iload_n hx hb dX5_reachedStates_4 rfl (lv_at hl 3 rfl) ?_
    refine lv_aload_n hx hb dX5_reachedStates_5 rfl (lv_at hl 0 rfl) ?_
    refine zw_get (C := RX5) (T := TX5) (M := 12) (v := .ref (ad 1)) hx hb hts hi_X5 hown hK hP kX_0 rfl 0 (by decide) hw0 rfl dX5_reachedStates_6 ?_
    refine zw_get (C := RX2) (T := TX2) (M := 7) (v := .int (μ.1 1 0)) hx hb hts hi_X2 hown hK hP (oS sS1) rfl 0 (by decide) hw1 rfl dX5_reachedStates_9 ?_
    refine lv_icmp_ge (tgt := 68) hx hb dX5_reachedStates_12 (by decide) (fun c1 => ?_) (fun c1 => ?_)
    · have h := h.1 c1
      refine lv_iload_n hx hb dX5_reachedStates_68 rfl (lv_at hl 2 rfl) ?_
      exact W.iret (v := b2) hx hb hr (fun t ht hW => ⟨⟨b2, μ, rfl, h, PW.to hK hN hP hD t ht hW⟩, hS.F ht⟩) hS.2.2 dX5_reachedStates_69
    · have h := h.2 c1
      refine lv_iconst (v := 0) hx hb dX5_reachedStates_15 (by decide) ?_
      refine lv_istore (lv' := [(4, .int 0), (0, .ref (ad 0)), (1, .ref (ad p1)), (2, .int b2), (3, .int b3)]) hx hb dX5_reachedStates_16 hl (by decide) rfl (fun ls hl => ?_)
      exact h _ _ _ hP hD hS (lv_sub hl [1, 2, 3, 4, 0] rfl)
  case b18 =>
    intro b2 b3 b4 μ h H locs ls hP hD hS hl
    refine lv_iload hx hb dX5_reachedStates_18 (lv_at hl 4 rfl) ?_
    refine lv_bipush (v := 32) hx hb dX5_reachedStates_20 (by decide) ?_
    refine lv_icmp_ge (tgt := 62) hx hb dX5_reachedStates_22 (by decide) (fun c2 => ?_) (fun c2 => ?_)
    · have h := h.1 c2
      obtain ⟨y3, ey3⟩ : ∃ y : Int32, y = b3 + 1 := ⟨_, rfl⟩
      have h := h y3 ey3
      refine lv_iinc (v := y3) (lv' := [(3, .int y3), (0, .ref (ad 0)), (1, .ref (ad p1)), (2, .int b2), (4, .int b4)]) hx hb dX5_reachedStates_62 hl (k := 3) rfl (by rw [ey3]; rfl) (by decide) rfl (fun ls hl => ?_)
      refine lv_goto (tgt := 4) hx hb dX5_reachedStates_65 (by decide) ?_
      exact h _ _ _ hP hD hS (lv_sub hl [1, 2, 3, 0] rfl)
    · have h := h.2 c2
      refine lv_aload_n hx hb dX5_reachedStates_25 rfl (lv_at hl 1 rfl) ?_
      refine lv_iload hx hb dX5_reachedStates_26 (lv_at hl 4 rfl) ?_
      obtain ⟨hi4, h⟩ := h
      refine zw_iald hx hb hK hP hp1 hi4 dX5_reachedStates_28 ?_
      refine lv_iconst (v := (-1)) hx hb dX5_reachedStates_29 (by decide) ?_
      refine lv_icmp_eq (tgt := 56) hx hb dX5_reachedStates_30 (by decide) (fun c5 => ?_) (fun c5 => ?_)
      · have h := h.1 c5
        exact h _ _ _ hP hD hS (lv_sub hl [0, 1, 2, 3, 4] rfl)
      · have h := h.2 c5
        refine lv_iload_n hx hb dX5_reachedStates_33 rfl (lv_at hl 2 rfl) ?_
        refine lv_iload hx hb dX5_reachedStates_34 (lv_at hl 4 rfl) ?_
        refine lv_iconst (v := 4) hx hb dX5_reachedStates_36 (by decide) ?_
        refine lv_idiv hx hb dX5_reachedStates_37 (by decide) ?_
        refine zc_i (zc_runS (As := [.int b2, .int (b4 / 4)]) (rest := []) ⟨hx, hb, hml, hown, hts⟩ (c_X5_hasBit l D cc A ad rs b2 (b4 / 4) μ _ h) (va_cwS 2 hts gX5_reachedStates_X5_hasBit rfl rfl rfl (by decide +kernel) ⟨Nat.le_of_ble_eq_true rfl, Nat.le_of_ble_eq_true rfl⟩) hK hN hP hD rfl hl.1 rfl (Nat.le_of_ble_eq_true rfl) dX5_reachedStates_38 ⟨Nat.zero_le _, Nat.zero_le _⟩) hS (fun r6 μ7 H locs h hP hD hS => ?_)
        refine lv_if_eq (tgt := 56) hx hb dX5_reachedStates_41 (by decide) (fun c8 => ?_) (fun c8 => ?_)
        · have h := h.1 c8
          exact h _ _ _ hP hD hS (lv_sub hl [0, 1, 2, 3, 4] rfl)
        · have h := h.2 c8
          refine lv_iload_n hx hb dX5_reachedStates_44 rfl (lv_at hl 2 rfl) ?_
          refine lv_iconst (v := 1) hx hb dX5_reachedStates_45 (by decide) ?_
          refine lv_aload_n hx hb dX5_reachedStates_46 rfl (lv_at hl 1 rfl) ?_
          refine lv_iload hx hb dX5_reachedStates_47 (lv_at hl 4 rfl) ?_
          obtain ⟨hi9, h⟩ := h
          refine zw_iald hx hb hK hP hp1 hi9 dX5_reachedStates_49 ?_
          refine zc_i (zc_runS (As := [.int (μ7.1 p1 (b4 : Int32).toNatClampNeg)]) (rest := [.int 1, .int b2]) ⟨hx, hb, hml, hown, hts⟩ (c_X5_targetOf l D cc A ad rs (μ7.1 p1 (b4 : Int32).toNatClampNeg) μ7 _ h) (va_cwS 1 hts gX5_reachedStates_X5_targetOf rfl rfl rfl (by decide +kernel) ⟨Nat.le_of_ble_eq_true rfl, Nat.le_of_ble_eq_true rfl⟩) hK hN hP hD rfl hl.1 rfl (Nat.le_of_ble_eq_true rfl) dX5_reachedStates_50 ⟨Nat.zero_le _, Nat.zero_le _⟩) hS (fun r10 μ11 H locs h hP hD hS => ?_)
          refine lv_ishl hx hb dX5_reachedStates_53 ?_
          refine lv_ior hx hb dX5_reachedStates_54 ?_
          refine lv_topi (fun y12 ey12 => ?_)
          have h := h y12 ey12
          refine lv_istore_n (lv' := [(2, .int y12), (0, .ref (ad 0)), (1, .ref (ad p1)), (3, .int b3), (4, .int b4)]) hx hb dX5_reachedStates_55 rfl hl (by decide) rfl (fun ls hl => ?_)
          exact h _ _ _ hP hD hS (lv_sub hl [1, 2, 0, 3, 4] rfl)
  case b56 =>
    intro b2 b3 b4 μ h H locs ls hP hD hS hl
    obtain ⟨y13, ey13⟩ : ∃ y : Int32, y = b4 + 1 := ⟨_, rfl⟩
    have h := h y13 ey13
    refine lv_iinc (v := y13) (lv' := [(4, .int y13), (0, .ref (ad 0)), (1, .ref (ad p1)), (2, .int b2), (3, .int b3)]) hx hb dX5_reachedStates_56 hl (k := 4) rfl (by rw [ey13]; rfl) (by decide) rfl (fun ls hl => ?_)
    refine lv_goto (tgt := 18) hx hb dX5_reachedStates_59 (by decide) ?_
    exact h _ _ _ hP hD hS (lv_sub hl [1, 2, 3, 4, 0] rfl)
