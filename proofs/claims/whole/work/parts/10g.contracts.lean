set_option maxHeartbeats 4000000 in
set_option maxRecDepth 100000 in
theorem c_X6_addFeature (l : Launch) (D : va_G) (cc : Nat → ClassId) (A : Nat → Prop) (ad : Nat → Nat) (rs : va_W)  (μ : Mem) (K : Int32 → Mem → Prop) (h : f_X6_addFeature  μ K) : Met l yX6_addFeature wsX6_addFeature ({ frames := 2, cells := 0, slots := 0, locals := 43 }) (va_Pc [.ref (ad 0)] (PW shM 18 D cc A ad rs μ)) (va_Qi K (PW shM 18 D cc A ad rs) A) 0 0 A := by
  refine Met.ofW (cc := cX6_addFeature) (maxL := 2) (ret := (some .int)) (by decide) rfl ?_
  intro p e s m args below meth c s₁ BB hml hv
  obtain ⟨rfl, hP, hK, hD, hN⟩ := hv
  have hx := BB.exec
  have hb := BB.bytes
  have hr := BB.returns
  have hts := atoms_spec (ws := wsX6_addFeature) BB.pre
  have hown : s.vm.findClass RX6 = some m.cls := findClass_of_methodNamed BB.named
  have hlocks := BB.notSynchronized
  have hi_X6 : ∀ w ∈ u_ws RX6 TX6 22, w ∈ wsX6_addFeature := by decide +kernel
  have hw0 := hts (.fieldLink RX6 7 "FeatureClashesModel" "v" "[I") (by decide +kernel)
  have hS : va_S A s.heap s.heap [] := va_S.rf
  have hl := lv_entry ([.ref (ad 0)]) (n := 2) (Nat.le_of_ble_eq_true rfl)
  rw [lg_entry_eq]
  generalize (lg_sl ([.ref (ad 0)]) ++ List.replicate (2 - (lg_sl ([.ref (ad 0)])).length) Slot.unset).toArray = ls at hl ⊢
  have hl : lv_has ls 2 [(0, .ref (ad 0))] := hl
  unfold f_X6_addFeature at h
  refine lv_aload_n hx hb dX6_addFeature_0 rfl (lv_at hl 0 rfl) ?_
  refine zw_get (C := RX6) (T := TX6) (M := 22) (v := .ref (ad 1)) hx hb hts hi_X6 hown hK hP kM_0 rfl 0 (by decide) hw0 rfl dX6_addFeature_1 ?_
  refine lv_bipush (v := 34) hx hb dX6_addFeature_4 (by decide) ?_
  obtain ⟨hi1, h⟩ := h
  refine zw_iald hx hb hK hP kM_1 hi1 dX6_addFeature_6 ?_
  refine lv_bipush (v := 6) hx hb dX6_addFeature_7 (by decide) ?_
  refine lv_icmp_ne (tgt := 15) hx hb dX6_addFeature_9 (by decide) (fun c2 => ?_) (fun c2 => ?_)
  · have h := h.1 c2
    refine lv_aload_n hx hb dX6_addFeature_15 rfl (lv_at hl 0 rfl) ?_
    refine zw_get (C := RX6) (T := TX6) (M := 22) (v := .ref (ad 1)) hx hb hts hi_X6 hown hK hP kM_0 rfl 0 (by decide) hw0 rfl dX6_addFeature_16 ?_
    refine lv_bipush (v := 34) hx hb dX6_addFeature_19 (by decide) ?_
    obtain ⟨hi3, h⟩ := h
    refine zw_iald hx hb hK hP kM_1 hi3 dX6_addFeature_21 ?_
    refine lv_topi (fun y4 ey4 => ?_)
    have h := h y4 ey4
    refine lv_istore_n (lv' := [(1, .int y4), (0, .ref (ad 0))]) hx hb dX6_addFeature_22 rfl hl (by decide) rfl (fun ls hl => ?_)
    refine lv_aload_n hx hb dX6_addFeature_23 rfl (lv_at hl 1 rfl) ?_
    refine zw_get (C := RX6) (T := TX6) (M := 22) (v := .ref (ad 1)) hx hb hts hi_X6 hown hK hP kM_0 rfl 0 (by decide) hw0 rfl dX6_addFeature_24 ?_
    refine lv_iload_n hx hb dX6_addFeature_27 rfl (lv_at hl 0 rfl) ?_
    refine lv_iconst (v := 0) hx hb dX6_addFeature_28 (by decide) ?_
    refine zc_i (zc_runS (As := [.int y4, .int 0]) (rest := [.ref (ad 1)]) ⟨hx, hb, hml, hown, hts⟩ (c_X6_at l D cc A ad rs y4 0 μ _ h) (va_cwS 2 hts gX6_addFeature_X6_at rfl rfl rfl (by decide +kernel) ⟨Nat.le_of_ble_eq_true rfl, Nat.le_of_ble_eq_true rfl⟩) hK hN hP hD rfl hl.1 rfl (Nat.le_of_ble_eq_true rfl) dX6_addFeature_29 ⟨Nat.zero_le _, Nat.zero_le _⟩) hS (fun r5 μ6 H locs h hP hD hS => ?_)
    refine lv_iconst (v := 1) hx hb dX6_addFeature_32 (by decide) ?_
    obtain ⟨hi7, h⟩ := h
    refine zw_iast hx hb hK hP hD hS kM_1 hi7 dX6_addFeature_33 (fun μ8 H locs eμ8 hP hD hS => ?_)
    have h := h μ8 eμ8
    refine lv_aload_n hx hb dX6_addFeature_34 rfl (lv_at hl 1 rfl) ?_
    refine zw_get (C := RX6) (T := TX6) (M := 22) (v := .ref (ad 1)) hx hb hts hi_X6 hown hK hP kM_0 rfl 0 (by decide) hw0 rfl dX6_addFeature_35 ?_
    refine lv_iload_n hx hb dX6_addFeature_38 rfl (lv_at hl 0 rfl) ?_
    refine lv_bipush (v := 33) hx hb dX6_addFeature_39 (by decide) ?_
    refine zc_i (zc_runS (As := [.int y4, .int 33]) (rest := [.ref (ad 1)]) ⟨hx, hb, hml, hown, hts⟩ (c_X6_at l D cc A ad rs y4 33 μ8 _ h) (va_cwS 2 hts gX6_addFeature_X6_at rfl rfl rfl (by decide +kernel) ⟨Nat.le_of_ble_eq_true rfl, Nat.le_of_ble_eq_true rfl⟩) hK hN hP hD rfl hl.1 rfl (Nat.le_of_ble_eq_true rfl) dX6_addFeature_41 ⟨Nat.zero_le _, Nat.zero_le _⟩) hS (fun r9 μ10 H locs h hP hD hS => ?_)
    refine lv_iconst (v := 0) hx hb dX6_addFeature_44 (by decide) ?_
    obtain ⟨hi11, h⟩ := h
    refine zw_iast hx hb hK hP hD hS kM_1 hi11 dX6_addFeature_45 (fun μ12 H locs eμ12 hP hD hS => ?_)
    have h := h μ12 eμ12
    refine lv_aload_n hx hb dX6_addFeature_46 rfl (lv_at hl 1 rfl) ?_
    refine lv_iload_n hx hb dX6_addFeature_47 rfl (lv_at hl 0 rfl) ?_
    refine zc_v (zc_runV (As := [.int y4]) (rest := []) ⟨hx, hb, hml, hown, hts⟩ (c_X6_clears l D cc A ad rs y4 μ12 _ h) (cwV 1 hts gX6_addFeature_X6_clears rfl rfl rfl (by decide +kernel) ⟨Nat.le_of_ble_eq_true rfl, Nat.le_of_ble_eq_true rfl⟩) kM_0 rfl hK hN hP hD rfl hl.1 rfl (Nat.le_of_ble_eq_true rfl) dX6_addFeature_48 ⟨Nat.zero_le _, Nat.zero_le _⟩) hS (fun μ14 H locs h hP hD hS => ?_)
    refine lv_aload_n hx hb dX6_addFeature_51 rfl (lv_at hl 1 rfl) ?_
    refine zw_get (C := RX6) (T := TX6) (M := 22) (v := .ref (ad 1)) hx hb hts hi_X6 hown hK hP kM_0 rfl 0 (by decide) hw0 rfl dX6_addFeature_52 ?_
    refine lv_bipush (v := 34) hx hb dX6_addFeature_55 (by decide) ?_
    refine lv_dup2_11 hx hb dX6_addFeature_57 rfl rfl ?_
    obtain ⟨hi15, h⟩ := h
    refine zw_iald hx hb hK hP kM_1 hi15 dX6_addFeature_58 ?_
    refine lv_iconst (v := 1) hx hb dX6_addFeature_59 (by decide) ?_
    refine lv_iadd hx hb dX6_addFeature_60 ?_
    obtain ⟨hi16, h⟩ := h
    refine zw_iast hx hb hK hP hD hS kM_1 hi16 dX6_addFeature_61 (fun μ17 H locs eμ17 hP hD hS => ?_)
    have h := h μ17 eμ17
    refine lv_iload_n hx hb dX6_addFeature_62 rfl (lv_at hl 0 rfl) ?_
    exact W.iret (v := y4) hx hb hr (fun t ht hW => ⟨⟨y4, μ17, rfl, h, PW.to hK hN hP hD t ht hW⟩, hS.F ht⟩) hS.2.2 dX6_addFeature_63
  · have h := h.2 c2
    refine lv_bipush (v := (-4)) hx hb dX6_addFeature_12 (by decide) ?_
    exact W.iret (v := (-4)) hx hb hr (fun t ht hW => ⟨⟨(-4), μ, rfl, h, PW.to hK hN hP hD t ht hW⟩, hS.F ht⟩) hS.2.2 dX6_addFeature_14
set_option maxHeartbeats 4000000 in
set_option maxRecDepth 100000 in
theorem c_X6_count (l : Launch) (D : va_G) (cc : Nat → ClassId) (A : Nat → Prop) (ad : Nat → Nat) (rs : va_W) (x1 : Int32) (μ : Mem) (K : Int32 → Mem → Prop) (h : f_X6_count x1 μ K) : Met l yX6_count wsX6_count ({ frames := 1, cells := 0, slots := 0, locals := 21 }) (va_Pc [.ref (ad 0), .int x1] (PW shM 18 D cc A ad rs μ)) (va_Qi K (PW shM 18 D cc A ad rs) A) 0 0 A := by
  refine Met.ofW (cc := cX6_count) (maxL := 4) (ret := (some .int)) (by decide) rfl ?_
  intro p e s m args below meth c s₁ BB hml hv
  obtain ⟨rfl, hP, hK, hD, hN⟩ := hv
  have hx := BB.exec
  have hb := BB.bytes
  have hr := BB.returns
  have hts := atoms_spec (ws := wsX6_count) BB.pre
  have hown : s.vm.findClass RX6 = some m.cls := findClass_of_methodNamed BB.named
  have hlocks := BB.notSynchronized
  have hi_X6 : ∀ w ∈ u_ws RX6 TX6 22, w ∈ wsX6_count := by decide +kernel
  have hw0 := hts (.fieldLink RX6 7 "FeatureClashesModel" "v" "[I") (by decide +kernel)
  have hS : va_S A s.heap s.heap [] := va_S.rf
  have hl := lv_entry ([.ref (ad 0), .int x1]) (n := 4) (Nat.le_of_ble_eq_true rfl)
  rw [lg_entry_eq]
  generalize (lg_sl ([.ref (ad 0), .int x1]) ++ List.replicate (4 - (lg_sl ([.ref (ad 0), .int x1])).length) Slot.unset).toArray = ls at hl ⊢
  have hl : lv_has ls 4 [(0, .ref (ad 0)), (1, .int x1)] := hl
  unfold f_X6_count at h
  refine (fun h => ?main) (h (fun b1 b2 b3 μ => ∀ (H1 : Heap) (locs : List Loc) (ls : Array Slot), va_P D vwCl (wW shM 18 cc ad μ ++ rs) H1 → va_D A (wW shM 18 cc ad μ ++ rs) → va_S A s.heap H1 locs → lv_has ls 4 [(0, .ref (ad 0)), (1, .int b1), (2, .int b2), (3, .int b3)] → W p l e (headSpec wsX6_count ({ frames := 1, cells := 0, slots := 0, locals := 21 })).room s m ([.ref (ad 0), .int x1] : List Value).toArray below meth c H1 locs 0 0 (MQ below (va_Qi K (PW shM 18 D cc A ad rs) A) ([.ref (ad 0), .int x1] : List Value).toArray s 0 0 A) (F0 m 4 ls ([]))) (fun b1 b3 z0 z1 μ => ∀ (H1 : Heap) (locs : List Loc) (ls : Array Slot), va_P D vwCl (wW shM 18 cc ad μ ++ rs) H1 → va_D A (wW shM 18 cc ad μ ++ rs) → va_S A s.heap H1 locs → lv_has ls 4 [(0, .ref (ad 0)), (1, .int b1), (3, .int b3)] → W p l e (headSpec wsX6_count ({ frames := 1, cells := 0, slots := 0, locals := 21 })).room s m ([.ref (ad 0), .int x1] : List Value).toArray below meth c H1 locs 0 0 (MQ below (va_Qi K (PW shM 18 D cc A ad rs) A) ([.ref (ad 0), .int x1] : List Value).toArray s 0 0 A) (F0 m 31 ls ([.int z0, .int z1]))) ?b4 ?b31)
  case main =>
      refine lv_iconst (v := 0) hx hb dX6_count_0 (by decide) ?_
      refine lv_istore_n (lv' := [(2, .int 0), (0, .ref (ad 0)), (1, .int x1)]) hx hb dX6_count_1 rfl hl (by decide) rfl (fun ls hl => ?_)
      refine lv_iconst (v := 0) hx hb dX6_count_2 (by decide) ?_
      refine lv_istore_n (lv' := [(3, .int 0), (2, .int 0), (0, .ref (ad 0)), (1, .int x1)]) hx hb dX6_count_3 rfl hl (by decide) rfl (fun ls hl => ?_)
      exact h _ _ _ hP hD hS (lv_sub hl [2, 3, 1, 0] rfl)
  case b4 =>
    intro b1 b2 b3 μ h H locs ls hP hD hS hl
    refine lv_iload_n hx hb dX6_count_4 rfl (lv_at hl 3 rfl) ?_
    refine lv_bipush (v := 32) hx hb dX6_count_5 (by decide) ?_
    refine lv_icmp_ge (tgt := 39) hx hb dX6_count_7 (by decide) (fun c1 => ?_) (fun c1 => ?_)
    · have h := h.1 c1
      refine lv_iload_n hx hb dX6_count_39 rfl (lv_at hl 2 rfl) ?_
      exact W.iret (v := b2) hx hb hr (fun t ht hW => ⟨⟨b2, μ, rfl, h, PW.to hK hN hP hD t ht hW⟩, hS.F ht⟩) hS.2.2 dX6_count_40
    · have h := h.2 c1
      refine lv_iload_n hx hb dX6_count_10 rfl (lv_at hl 2 rfl) ?_
      refine lv_aload_n hx hb dX6_count_11 rfl (lv_at hl 0 rfl) ?_
      refine zw_get (C := RX6) (T := TX6) (M := 22) (v := .ref (ad 1)) hx hb hts hi_X6 hown hK hP kM_0 rfl 0 (by decide) hw0 rfl dX6_count_12 ?_
      refine lv_iload_n hx hb dX6_count_15 rfl (lv_at hl 1 rfl) ?_
      refine lv_iconst (v := 1) hx hb dX6_count_16 (by decide) ?_
      refine lv_iload_n hx hb dX6_count_17 rfl (lv_at hl 3 rfl) ?_
      refine lv_iadd hx hb dX6_count_18 ?_
      refine zc_i (zc_runS (As := [.int b1, .int (1 + b3)]) (rest := [.ref (ad 1), .int b2]) ⟨hx, hb, hml, hown, hts⟩ (c_X6_at l D cc A ad rs b1 (1 + b3) μ _ h) (va_cwS 2 hts gX6_count_X6_at rfl rfl rfl (by decide +kernel) ⟨Nat.le_of_ble_eq_true rfl, Nat.le_of_ble_eq_true rfl⟩) hK hN hP hD rfl hl.1 rfl (Nat.le_of_ble_eq_true rfl) dX6_count_19 ⟨Nat.zero_le _, Nat.zero_le _⟩) hS (fun r2 μ3 H locs h hP hD hS => ?_)
      obtain ⟨hi4, h⟩ := h
      refine zw_iald hx hb hK hP kM_1 hi4 dX6_count_22 ?_
      refine lv_if_ge (tgt := 30) hx hb dX6_count_23 (by decide) (fun c5 => ?_) (fun c5 => ?_)
      · have h := h.1 c5
        refine lv_iconst (v := 1) hx hb dX6_count_30 (by decide) ?_
        exact h _ _ _ hP hD hS (lv_sub hl [0, 1, 3] rfl)
      · have h := h.2 c5
        refine lv_iconst (v := 0) hx hb dX6_count_26 (by decide) ?_
        refine lv_goto (tgt := 31) hx hb dX6_count_27 (by decide) ?_
        exact h _ _ _ hP hD hS (lv_sub hl [0, 1, 3] rfl)
  case b31 =>
    intro b1 b3 z0 z1 μ h H locs ls hP hD hS hl
    refine lv_iadd hx hb dX6_count_31 ?_
    refine lv_topi (fun y6 ey6 => ?_)
    have h := h y6 ey6
    refine lv_istore_n (lv' := [(2, .int y6), (0, .ref (ad 0)), (1, .int b1), (3, .int b3)]) hx hb dX6_count_32 rfl hl (by decide) rfl (fun ls hl => ?_)
    obtain ⟨y7, ey7⟩ : ∃ y : Int32, y = b3 + 1 := ⟨_, rfl⟩
    have h := h y7 ey7
    refine lv_iinc (v := y7) (lv' := [(3, .int y7), (2, .int y6), (0, .ref (ad 0)), (1, .int b1)]) hx hb dX6_count_33 hl (k := 3) rfl (by rw [ey7]; rfl) (by decide) rfl (fun ls hl => ?_)
    refine lv_goto (tgt := 4) hx hb dX6_count_36 (by decide) ?_
    exact h _ _ _ hP hD hS (lv_sub hl [2, 3, 1, 0] rfl)
set_option maxHeartbeats 4000000 in
set_option maxRecDepth 100000 in
theorem c_X6_change (l : Launch) (D : va_G) (cc : Nat → ClassId) (A : Nat → Prop) (ad : Nat → Nat) (rs : va_W) (x1 : Int32) (x2 : Int32) (x3 : Int32) (x4 : Int32) (x5 : Int32) (μ : Mem) (K : Int32 → Mem → Prop) (h : f_X6_change x1 x2 x3 x4 x5 μ K) : Met l yX6_change wsX6_change ({ frames := 2, cells := 0, slots := 0, locals := 44 }) (va_Pc [.ref (ad 0), .int x1, .int x2, .int x3, .int x4, .int x5] (PW shM 18 D cc A ad rs μ)) (va_Qi K (PW shM 18 D cc A ad rs) A) 0 0 A := by
  refine Met.ofW (cc := cX6_change) (maxL := 6) (ret := (some .int)) (by decide) rfl ?_
  intro p e s m args below meth c s₁ BB hml hv
  obtain ⟨rfl, hP, hK, hD, hN⟩ := hv
  have hx := BB.exec
  have hb := BB.bytes
  have hr := BB.returns
  have hts := atoms_spec (ws := wsX6_change) BB.pre
  have hown : s.vm.findClass RX6 = some m.cls := findClass_of_methodNamed BB.named
  have hlocks := BB.notSynchronized
  have hi_X6 : ∀ w ∈ u_ws RX6 TX6 22, w ∈ wsX6_change := by decide +kernel
  have hw0 := hts (.fieldLink RX6 7 "FeatureClashesModel" "v" "[I") (by decide +kernel)
  have hS : va_S A s.heap s.heap [] := va_S.rf
  have hl := lv_entry ([.ref (ad 0), .int x1, .int x2, .int x3, .int x4, .int x5]) (n := 6) (Nat.le_of_ble_eq_true rfl)
  rw [lg_entry_eq]
  generalize (lg_sl ([.ref (ad 0), .int x1, .int x2, .int x3, .int x4, .int x5]) ++ List.replicate (6 - (lg_sl ([.ref (ad 0), .int x1, .int x2, .int x3, .int x4, .int x5])).length) Slot.unset).toArray = ls at hl ⊢
  have hl : lv_has ls 6 [(0, .ref (ad 0)), (1, .int x1), (2, .int x2), (3, .int x3), (4, .int x4), (5, .int x5)] := hl
  unfold f_X6_change at h
  refine lv_aload_n hx hb dX6_change_0 rfl (lv_at hl 0 rfl) ?_
  refine lv_iload_n hx hb dX6_change_1 rfl (lv_at hl 1 rfl) ?_
  refine zc_i (zc_runV (As := [.int x1]) (rest := []) ⟨hx, hb, hml, hown, hts⟩ (c_X6_isFeature l D cc A ad rs x1 μ _ h) (cwV 1 hts gX6_change_X6_isFeature rfl rfl rfl (by decide +kernel) ⟨Nat.le_of_ble_eq_true rfl, Nat.le_of_ble_eq_true rfl⟩) kM_0 rfl hK hN hP hD rfl hl.1 rfl (Nat.le_of_ble_eq_true rfl) dX6_change_2 ⟨Nat.zero_le _, Nat.zero_le _⟩) hS (fun r1 μ2 H locs h hP hD hS => ?_)
  refine lv_if_eq (tgt := 33) hx hb dX6_change_5 (by decide) (fun c3 => ?_) (fun c3 => ?_)
  · have h := h.1 c3
    refine lv_iconst (v := (-1)) hx hb dX6_change_33 (by decide) ?_
    exact W.iret (v := (-1)) hx hb hr (fun t ht hW => ⟨⟨(-1), μ2, rfl, h, PW.to hK hN hP hD t ht hW⟩, hS.F ht⟩) hS.2.2 dX6_change_34
  · have h := h.2 c3
    refine lv_aload_n hx hb dX6_change_8 rfl (lv_at hl 0 rfl) ?_
    refine lv_iload_n hx hb dX6_change_9 rfl (lv_at hl 2 rfl) ?_
    refine zc_i (zc_runV (As := [.int x2]) (rest := []) ⟨hx, hb, hml, hown, hts⟩ (c_X6_isState l D cc A ad rs x2 μ2 _ h) (cwV 1 hts gX6_change_X6_isState rfl rfl rfl (by decide +kernel) ⟨Nat.le_of_ble_eq_true rfl, Nat.le_of_ble_eq_true rfl⟩) kM_0 rfl hK hN hP hD rfl hl.1 rfl (Nat.le_of_ble_eq_true rfl) dX6_change_10 ⟨Nat.zero_le _, Nat.zero_le _⟩) hS (fun r4 μ5 H locs h hP hD hS => ?_)
    refine lv_if_eq (tgt := 33) hx hb dX6_change_13 (by decide) (fun c6 => ?_) (fun c6 => ?_)
    · have h := h.1 c6
      refine lv_iconst (v := (-1)) hx hb dX6_change_33 (by decide) ?_
      exact W.iret (v := (-1)) hx hb hr (fun t ht hW => ⟨⟨(-1), μ5, rfl, h, PW.to hK hN hP hD t ht hW⟩, hS.F ht⟩) hS.2.2 dX6_change_34
    · have h := h.2 c6
      refine lv_aload_n hx hb dX6_change_16 rfl (lv_at hl 0 rfl) ?_
      refine lv_iload_n hx hb dX6_change_17 rfl (lv_at hl 3 rfl) ?_
      refine zc_i (zc_runV (As := [.int x3]) (rest := []) ⟨hx, hb, hml, hown, hts⟩ (c_X6_isLetter l D cc A ad rs x3 μ5 _ h) (cwV 1 hts gX6_change_X6_isLetter rfl rfl rfl (by decide +kernel) ⟨Nat.le_of_ble_eq_true rfl, Nat.le_of_ble_eq_true rfl⟩) kM_0 rfl hK hN hP hD rfl hl.1 rfl (Nat.le_of_ble_eq_true rfl) dX6_change_18 ⟨Nat.zero_le _, Nat.zero_le _⟩) hS (fun r7 μ8 H locs h hP hD hS => ?_)
      refine lv_if_eq (tgt := 33) hx hb dX6_change_21 (by decide) (fun c9 => ?_) (fun c9 => ?_)
      · have h := h.1 c9
        refine lv_iconst (v := (-1)) hx hb dX6_change_33 (by decide) ?_
        exact W.iret (v := (-1)) hx hb hr (fun t ht hW => ⟨⟨(-1), μ8, rfl, h, PW.to hK hN hP hD t ht hW⟩, hS.F ht⟩) hS.2.2 dX6_change_34
      · have h := h.2 c9
        refine lv_aload_n hx hb dX6_change_24 rfl (lv_at hl 0 rfl) ?_
        refine lv_iload hx hb dX6_change_25 (lv_at hl 4 rfl) ?_
        refine zc_i (zc_runV (As := [.int x4]) (rest := []) ⟨hx, hb, hml, hown, hts⟩ (c_X6_isState l D cc A ad rs x4 μ8 _ h) (cwV 1 hts gX6_change_X6_isState rfl rfl rfl (by decide +kernel) ⟨Nat.le_of_ble_eq_true rfl, Nat.le_of_ble_eq_true rfl⟩) kM_0 rfl hK hN hP hD rfl hl.1 rfl (Nat.le_of_ble_eq_true rfl) dX6_change_27 ⟨Nat.zero_le _, Nat.zero_le _⟩) hS (fun r10 μ11 H locs h hP hD hS => ?_)
        refine lv_if_ne (tgt := 35) hx hb dX6_change_30 (by decide) (fun c12 => ?_) (fun c12 => ?_)
        · have h := h.1 c12
          refine lv_iload hx hb dX6_change_35 (lv_at hl 5 rfl) ?_
          refine lv_iconst (v := 0) hx hb dX6_change_37 (by decide) ?_
          refine lv_bipush (v := 9) hx hb dX6_change_38 (by decide) ?_
          refine zc_i (zc_runS (As := [.int x5, .int 0, .int 9]) (rest := []) ⟨hx, hb, hml, hown, hts⟩ (c_X6_in l D cc A ad rs x5 0 9 μ11 _ h) (va_cwS 3 hts gX6_change_X6_in rfl rfl rfl (by decide +kernel) ⟨Nat.le_of_ble_eq_true rfl, Nat.le_of_ble_eq_true rfl⟩) hK hN hP hD rfl hl.1 rfl (Nat.le_of_ble_eq_true rfl) dX6_change_40 ⟨Nat.zero_le _, Nat.zero_le _⟩) hS (fun r13 μ14 H locs h hP hD hS => ?_)
          refine lv_if_ne (tgt := 49) hx hb dX6_change_43 (by decide) (fun c15 => ?_) (fun c15 => ?_)
          · have h := h.1 c15
            refine lv_aload_n hx hb dX6_change_49 rfl (lv_at hl 0 rfl) ?_
            refine zw_get (C := RX6) (T := TX6) (M := 22) (v := .ref (ad 1)) hx hb hts hi_X6 hown hK hP kM_0 rfl 0 (by decide) hw0 rfl dX6_change_50 ?_
            refine lv_iload_n hx hb dX6_change_53 rfl (lv_at hl 1 rfl) ?_
            refine lv_iconst (v := 1) hx hb dX6_change_54 (by decide) ?_
            refine lv_iconst (v := 4) hx hb dX6_change_55 (by decide) ?_
            refine lv_iload_n hx hb dX6_change_56 rfl (lv_at hl 2 rfl) ?_
            refine lv_imul hx hb dX6_change_57 ?_
            refine lv_iadd hx hb dX6_change_58 ?_
            refine lv_iload_n hx hb dX6_change_59 rfl (lv_at hl 3 rfl) ?_
            refine lv_iadd hx hb dX6_change_60 ?_
            refine zc_i (zc_runS (As := [.int x1, .int ((1 + (4 * x2)) + x3)]) (rest := [.ref (ad 1)]) ⟨hx, hb, hml, hown, hts⟩ (c_X6_at l D cc A ad rs x1 ((1 + (4 * x2)) + x3) μ14 _ h) (va_cwS 2 hts gX6_change_X6_at rfl rfl rfl (by decide +kernel) ⟨Nat.le_of_ble_eq_true rfl, Nat.le_of_ble_eq_true rfl⟩) hK hN hP hD rfl hl.1 rfl (Nat.le_of_ble_eq_true rfl) dX6_change_61 ⟨Nat.zero_le _, Nat.zero_le _⟩) hS (fun r16 μ17 H locs h hP hD hS => ?_)
            refine lv_bipush (v := 10) hx hb dX6_change_64 (by decide) ?_
            refine lv_iload hx hb dX6_change_66 (lv_at hl 4 rfl) ?_
            refine lv_imul hx hb dX6_change_68 ?_
            refine lv_iload hx hb dX6_change_69 (lv_at hl 5 rfl) ?_
            refine lv_iadd hx hb dX6_change_71 ?_
            obtain ⟨hi18, h⟩ := h
            refine zw_iast hx hb hK hP hD hS kM_1 hi18 dX6_change_72 (fun μ19 H locs eμ19 hP hD hS => ?_)
            have h := h μ19 eμ19
            refine lv_aload_n hx hb dX6_change_73 rfl (lv_at hl 0 rfl) ?_
            refine lv_iload_n hx hb dX6_change_74 rfl (lv_at hl 1 rfl) ?_
            refine zc_i (zc_runV (As := [.int x1]) (rest := []) ⟨hx, hb, hml, hown, hts⟩ (c_X6_count l D cc A ad rs x1 μ19 _ h) (cwV 1 hts gX6_change_X6_count rfl rfl rfl (by decide +kernel) ⟨Nat.le_of_ble_eq_true rfl, Nat.le_of_ble_eq_true rfl⟩) kM_0 rfl hK hN hP hD rfl hl.1 rfl (Nat.le_of_ble_eq_true rfl) dX6_change_75 ⟨Nat.zero_le _, Nat.zero_le _⟩) hS (fun r20 μ21 H locs h hP hD hS => ?_)
            exact W.iret (v := r20) hx hb hr (fun t ht hW => ⟨⟨r20, μ21, rfl, h, PW.to hK hN hP hD t ht hW⟩, hS.F ht⟩) hS.2.2 dX6_change_78
          · have h := h.2 c15
            refine lv_bipush (v := (-2)) hx hb dX6_change_46 (by decide) ?_
            exact W.iret (v := (-2)) hx hb hr (fun t ht hW => ⟨⟨(-2), μ14, rfl, h, PW.to hK hN hP hD t ht hW⟩, hS.F ht⟩) hS.2.2 dX6_change_48
        · have h := h.2 c12
          refine lv_iconst (v := (-1)) hx hb dX6_change_33 (by decide) ?_
          exact W.iret (v := (-1)) hx hb hr (fun t ht hW => ⟨⟨(-1), μ11, rfl, h, PW.to hK hN hP hD t ht hW⟩, hS.F ht⟩) hS.2.2 dX6_change_34
set_option maxHeartbeats 4000000 in
set_option maxRecDepth 100000 in
theorem c_X6_changeToNone (l : Launch) (D : va_G) (cc : Nat → ClassId) (A : Nat → Prop) (ad : Nat → Nat) (rs : va_W) (x1 : Int32) (x2 : Int32) (x3 : Int32) (μ : Mem) (K : Int32 → Mem → Prop) (h : f_X6_changeToNone x1 x2 x3 μ K) : Met l yX6_changeToNone wsX6_changeToNone ({ frames := 2, cells := 0, slots := 0, locals := 44 }) (va_Pc [.ref (ad 0), .int x1, .int x2, .int x3] (PW shM 18 D cc A ad rs μ)) (va_Qi K (PW shM 18 D cc A ad rs) A) 0 0 A := by
  refine Met.ofW (cc := cX6_changeToNone) (maxL := 4) (ret := (some .int)) (by decide) rfl ?_
  intro p e s m args below meth c s₁ BB hml hv
  obtain ⟨rfl, hP, hK, hD, hN⟩ := hv
  have hx := BB.exec
  have hb := BB.bytes
  have hr := BB.returns
  have hts := atoms_spec (ws := wsX6_changeToNone) BB.pre
  have hown : s.vm.findClass RX6 = some m.cls := findClass_of_methodNamed BB.named
  have hlocks := BB.notSynchronized
  have hi_X6 : ∀ w ∈ u_ws RX6 TX6 22, w ∈ wsX6_changeToNone := by decide +kernel
  have hw0 := hts (.fieldLink RX6 7 "FeatureClashesModel" "v" "[I") (by decide +kernel)
  have hS : va_S A s.heap s.heap [] := va_S.rf
  have hl := lv_entry ([.ref (ad 0), .int x1, .int x2, .int x3]) (n := 4) (Nat.le_of_ble_eq_true rfl)
  rw [lg_entry_eq]
  generalize (lg_sl ([.ref (ad 0), .int x1, .int x2, .int x3]) ++ List.replicate (4 - (lg_sl ([.ref (ad 0), .int x1, .int x2, .int x3])).length) Slot.unset).toArray = ls at hl ⊢
  have hl : lv_has ls 4 [(0, .ref (ad 0)), (1, .int x1), (2, .int x2), (3, .int x3)] := hl
  unfold f_X6_changeToNone at h
  refine lv_aload_n hx hb dX6_changeToNone_0 rfl (lv_at hl 0 rfl) ?_
  refine lv_iload_n hx hb dX6_changeToNone_1 rfl (lv_at hl 1 rfl) ?_
  refine zc_i (zc_runV (As := [.int x1]) (rest := []) ⟨hx, hb, hml, hown, hts⟩ (c_X6_isFeature l D cc A ad rs x1 μ _ h) (cwV 1 hts gX6_changeToNone_X6_isFeature rfl rfl rfl (by decide +kernel) ⟨Nat.le_of_ble_eq_true rfl, Nat.le_of_ble_eq_true rfl⟩) kM_0 rfl hK hN hP hD rfl hl.1 rfl (Nat.le_of_ble_eq_true rfl) dX6_changeToNone_2 ⟨Nat.zero_le _, Nat.zero_le _⟩) hS (fun r1 μ2 H locs h hP hD hS => ?_)
  refine lv_if_eq (tgt := 24) hx hb dX6_changeToNone_5 (by decide) (fun c3 => ?_) (fun c3 => ?_)
  · have h := h.1 c3
    refine lv_iconst (v := (-1)) hx hb dX6_changeToNone_24 (by decide) ?_
    exact W.iret (v := (-1)) hx hb hr (fun t ht hW => ⟨⟨(-1), μ2, rfl, h, PW.to hK hN hP hD t ht hW⟩, hS.F ht⟩) hS.2.2 dX6_changeToNone_25
  · have h := h.2 c3
    refine lv_aload_n hx hb dX6_changeToNone_8 rfl (lv_at hl 0 rfl) ?_
    refine lv_iload_n hx hb dX6_changeToNone_9 rfl (lv_at hl 2 rfl) ?_
    refine zc_i (zc_runV (As := [.int x2]) (rest := []) ⟨hx, hb, hml, hown, hts⟩ (c_X6_isState l D cc A ad rs x2 μ2 _ h) (cwV 1 hts gX6_changeToNone_X6_isState rfl rfl rfl (by decide +kernel) ⟨Nat.le_of_ble_eq_true rfl, Nat.le_of_ble_eq_true rfl⟩) kM_0 rfl hK hN hP hD rfl hl.1 rfl (Nat.le_of_ble_eq_true rfl) dX6_changeToNone_10 ⟨Nat.zero_le _, Nat.zero_le _⟩) hS (fun r4 μ5 H locs h hP hD hS => ?_)
    refine lv_if_eq (tgt := 24) hx hb dX6_changeToNone_13 (by decide) (fun c6 => ?_) (fun c6 => ?_)
    · have h := h.1 c6
      refine lv_iconst (v := (-1)) hx hb dX6_changeToNone_24 (by decide) ?_
      exact W.iret (v := (-1)) hx hb hr (fun t ht hW => ⟨⟨(-1), μ5, rfl, h, PW.to hK hN hP hD t ht hW⟩, hS.F ht⟩) hS.2.2 dX6_changeToNone_25
    · have h := h.2 c6
      refine lv_aload_n hx hb dX6_changeToNone_16 rfl (lv_at hl 0 rfl) ?_
      refine lv_iload_n hx hb dX6_changeToNone_17 rfl (lv_at hl 3 rfl) ?_
      refine zc_i (zc_runV (As := [.int x3]) (rest := []) ⟨hx, hb, hml, hown, hts⟩ (c_X6_isLetter l D cc A ad rs x3 μ5 _ h) (cwV 1 hts gX6_changeToNone_X6_isLetter rfl rfl rfl (by decide +kernel) ⟨Nat.le_of_ble_eq_true rfl, Nat.le_of_ble_eq_true rfl⟩) kM_0 rfl hK hN hP hD rfl hl.1 rfl (Nat.le_of_ble_eq_true rfl) dX6_changeToNone_18 ⟨Nat.zero_le _, Nat.zero_le _⟩) hS (fun r7 μ8 H locs h hP hD hS => ?_)
      refine lv_if_ne (tgt := 26) hx hb dX6_changeToNone_21 (by decide) (fun c9 => ?_) (fun c9 => ?_)
      · have h := h.1 c9
        refine lv_aload_n hx hb dX6_changeToNone_26 rfl (lv_at hl 0 rfl) ?_
        refine zw_get (C := RX6) (T := TX6) (M := 22) (v := .ref (ad 1)) hx hb hts hi_X6 hown hK hP kM_0 rfl 0 (by decide) hw0 rfl dX6_changeToNone_27 ?_
        refine lv_iload_n hx hb dX6_changeToNone_30 rfl (lv_at hl 1 rfl) ?_
        refine lv_iconst (v := 1) hx hb dX6_changeToNone_31 (by decide) ?_
        refine lv_iconst (v := 4) hx hb dX6_changeToNone_32 (by decide) ?_
        refine lv_iload_n hx hb dX6_changeToNone_33 rfl (lv_at hl 2 rfl) ?_
        refine lv_imul hx hb dX6_changeToNone_34 ?_
        refine lv_iadd hx hb dX6_changeToNone_35 ?_
        refine lv_iload_n hx hb dX6_changeToNone_36 rfl (lv_at hl 3 rfl) ?_
        refine lv_iadd hx hb dX6_changeToNone_37 ?_
        refine zc_i (zc_runS (As := [.int x1, .int ((1 + (4 * x2)) + x3)]) (rest := [.ref (ad 1)]) ⟨hx, hb, hml, hown, hts⟩ (c_X6_at l D cc A ad rs x1 ((1 + (4 * x2)) + x3) μ8 _ h) (va_cwS 2 hts gX6_changeToNone_X6_at rfl rfl rfl (by decide +kernel) ⟨Nat.le_of_ble_eq_true rfl, Nat.le_of_ble_eq_true rfl⟩) hK hN hP hD rfl hl.1 rfl (Nat.le_of_ble_eq_true rfl) dX6_changeToNone_38 ⟨Nat.zero_le _, Nat.zero_le _⟩) hS (fun r10 μ11 H locs h hP hD hS => ?_)
        refine lv_bipush (v := 100) hx hb dX6_changeToNone_41 (by decide) ?_
        obtain ⟨hi12, h⟩ := h
        refine zw_iast hx hb hK hP hD hS kM_1 hi12 dX6_changeToNone_43 (fun μ13 H locs eμ13 hP hD hS => ?_)
        have h := h μ13 eμ13
        refine lv_aload_n hx hb dX6_changeToNone_44 rfl (lv_at hl 0 rfl) ?_
        refine lv_iload_n hx hb dX6_changeToNone_45 rfl (lv_at hl 1 rfl) ?_
        refine zc_i (zc_runV (As := [.int x1]) (rest := []) ⟨hx, hb, hml, hown, hts⟩ (c_X6_count l D cc A ad rs x1 μ13 _ h) (cwV 1 hts gX6_changeToNone_X6_count rfl rfl rfl (by decide +kernel) ⟨Nat.le_of_ble_eq_true rfl, Nat.le_of_ble_eq_true rfl⟩) kM_0 rfl hK hN hP hD rfl hl.1 rfl (Nat.le_of_ble_eq_true rfl) dX6_changeToNone_46 ⟨Nat.zero_le _, Nat.zero_le _⟩) hS (fun r14 μ15 H locs h hP hD hS => ?_)
        exact W.iret (v := r14) hx hb hr (fun t ht hW => ⟨⟨r14, μ15, rfl, h, PW.to hK hN hP hD t ht hW⟩, hS.F ht⟩) hS.2.2 dX6_changeToNone_49
      · have h := h.2 c9
        refine lv_iconst (v := (-1)) hx hb dX6_changeToNone_24 (by decide) ?_
        exact W.iret (v := (-1)) hx hb hr (fun t ht hW => ⟨⟨(-1), μ8, rfl, h, PW.to hK hN hP hD t ht hW⟩, hS.F ht⟩) hS.2.2 dX6_changeToNone_25
set_option maxHeartbeats 4000000 in
set_option maxRecDepth 100000 in
theorem c_X6_unchange (l : Launch) (D : va_G) (cc : Nat → ClassId) (A : Nat → Prop) (ad : Nat → Nat) (rs : va_W) (x1 : Int32) (x2 : Int32) (x3 : Int32) (μ : Mem) (K : Int32 → Mem → Prop) (h : f_X6_unchange x1 x2 x3 μ K) : Met l yX6_unchange wsX6_unchange ({ frames := 2, cells := 0, slots := 0, locals := 44 }) (va_Pc [.ref (ad 0), .int x1, .int x2, .int x3] (PW shM 18 D cc A ad rs μ)) (va_Qi K (PW shM 18 D cc A ad rs) A) 0 0 A := by
  refine Met.ofW (cc := cX6_unchange) (maxL := 4) (ret := (some .int)) (by decide) rfl ?_
  intro p e s m args below meth c s₁ BB hml hv
  obtain ⟨rfl, hP, hK, hD, hN⟩ := hv
  have hx := BB.exec
  have hb := BB.bytes
  have hr := BB.returns
  have hts := atoms_spec (ws := wsX6_unchange) BB.pre
  have hown : s.vm.findClass RX6 = some m.cls := findClass_of_methodNamed BB.named
  have hlocks := BB.notSynchronized
  have hS : va_S A s.heap s.heap [] := va_S.rf
  have hl := lv_entry ([.ref (ad 0), .int x1, .int x2, .int x3]) (n := 4) (Nat.le_of_ble_eq_true rfl)
  rw [lg_entry_eq]
  generalize (lg_sl ([.ref (ad 0), .int x1, .int x2, .int x3]) ++ List.replicate (4 - (lg_sl ([.ref (ad 0), .int x1, .int x2, .int x3])).length) Slot.unset).toArray = ls at hl ⊢
  have hl : lv_has ls 4 [(0, .ref (ad 0)), (1, .int x1), (2, .int x2), (3, .int x3)] := hl
  unfold f_X6_unchange at h
  refine lv_aload_n hx hb dX6_unchange_0 rfl (lv_at hl 0 rfl) ?_
  refine lv_iload_n hx hb dX6_unchange_1 rfl (lv_at hl 1 rfl) ?_
  refine zc_i (zc_runV (As := [.int x1]) (rest := []) ⟨hx, hb, hml, hown, hts⟩ (c_X6_isFeature l D cc A ad rs x1 μ _ h) (cwV 1 hts gX6_unchange_X6_isFeature rfl rfl rfl (by decide +kernel) ⟨Nat.le_of_ble_eq_true rfl, Nat.le_of_ble_eq_true rfl⟩) kM_0 rfl hK hN hP hD rfl hl.1 rfl (Nat.le_of_ble_eq_true rfl) dX6_unchange_2 ⟨Nat.zero_le _, Nat.zero_le _⟩) hS (fun r1 μ2 H locs h hP hD hS => ?_)
  refine lv_if_eq (tgt := 24) hx hb dX6_unchange_5 (by decide) (fun c3 => ?_) (fun c3 => ?_)
  · have h := h.1 c3
    refine lv_iconst (v := (-1)) hx hb dX6_unchange_24 (by decide) ?_
    exact W.iret (v := (-1)) hx hb hr (fun t ht hW => ⟨⟨(-1), μ2, rfl, h, PW.to hK hN hP hD t ht hW⟩, hS.F ht⟩) hS.2.2 dX6_unchange_25
  · have h := h.2 c3
    refine lv_aload_n hx hb dX6_unchange_8 rfl (lv_at hl 0 rfl) ?_
    refine lv_iload_n hx hb dX6_unchange_9 rfl (lv_at hl 2 rfl) ?_
    refine zc_i (zc_runV (As := [.int x2]) (rest := []) ⟨hx, hb, hml, hown, hts⟩ (c_X6_isState l D cc A ad rs x2 μ2 _ h) (cwV 1 hts gX6_unchange_X6_isState rfl rfl rfl (by decide +kernel) ⟨Nat.le_of_ble_eq_true rfl, Nat.le_of_ble_eq_true rfl⟩) kM_0 rfl hK hN hP hD rfl hl.1 rfl (Nat.le_of_ble_eq_true rfl) dX6_unchange_10 ⟨Nat.zero_le _, Nat.zero_le _⟩) hS (fun r4 μ5 H locs h hP hD hS => ?_)
    refine lv_if_eq (tgt := 24) hx hb dX6_unchange_13 (by decide) (fun c6 => ?_) (fun c6 => ?_)
    · have h := h.1 c6
      refine lv_iconst (v := (-1)) hx hb dX6_unchange_24 (by decide) ?_
      exact W.iret (v := (-1)) hx hb hr (fun t ht hW => ⟨⟨(-1), μ5, rfl, h, PW.to hK hN hP hD t ht hW⟩, hS.F ht⟩) hS.2.2 dX6_unchange_25
    · have h := h.2 c6
      refine lv_aload_n hx hb dX6_unchange_16 rfl (lv_at hl 0 rfl) ?_
      refine lv_iload_n hx hb dX6_unchange_17 rfl (lv_at hl 3 rfl) ?_
      refine zc_i (zc_runV (As := [.int x3]) (rest := []) ⟨hx, hb, hml, hown, hts⟩ (c_X6_isLetter l D cc A ad rs x3 μ5 _ h) (cwV 1 hts gX6_unchange_X6_isLetter rfl rfl rfl (by decide +kernel) ⟨Nat.le_of_ble_eq_true rfl, Nat.le_of_ble_eq_true rfl⟩) kM_0 rfl hK hN hP hD rfl hl.1 rfl (Nat.le_of_ble_eq_true rfl) dX6_unchange_18 ⟨Nat.zero_le _, Nat.zero_le _⟩) hS (fun r7 μ8 H locs h hP hD hS => ?_)
      refine lv_if_ne (tgt := 26) hx hb dX6_unchange_21 (by decide) (fun c9 => ?_) (fun c9 => ?_)
      · have h := h.1 c9
        refine lv_aload_n hx hb dX6_unchange_26 rfl (lv_at hl 0 rfl) ?_
        refine lv_iload_n hx hb dX6_unchange_27 rfl (lv_at hl 1 rfl) ?_
        refine lv_iconst (v := 1) hx hb dX6_unchange_28 (by decide) ?_
        refine lv_iconst (v := 4) hx hb dX6_unchange_29 (by decide) ?_
        refine lv_iload_n hx hb dX6_unchange_30 rfl (lv_at hl 2 rfl) ?_
        refine lv_imul hx hb dX6_unchange_31 ?_
        refine lv_iadd hx hb dX6_unchange_32 ?_
        refine lv_iload_n hx hb dX6_unchange_33 rfl (lv_at hl 3 rfl) ?_
        refine lv_iadd hx hb dX6_unchange_34 ?_
        refine zc_i (zc_runS (As := [.int x1, .int ((1 + (4 * x2)) + x3)]) (rest := [.ref (ad 0)]) ⟨hx, hb, hml, hown, hts⟩ (c_X6_at l D cc A ad rs x1 ((1 + (4 * x2)) + x3) μ8 _ h) (va_cwS 2 hts gX6_unchange_X6_at rfl rfl rfl (by decide +kernel) ⟨Nat.le_of_ble_eq_true rfl, Nat.le_of_ble_eq_true rfl⟩) hK hN hP hD rfl hl.1 rfl (Nat.le_of_ble_eq_true rfl) dX6_unchange_35 ⟨Nat.zero_le _, Nat.zero_le _⟩) hS (fun r10 μ11 H locs h hP hD hS => ?_)
        refine lv_iconst (v := (-1)) hx hb dX6_unchange_38 (by decide) ?_
        refine zc_i (zc_runV (As := [.int r10, .int (-1)]) (rest := []) ⟨hx, hb, hml, hown, hts⟩ (c_X6_puts l D cc A ad rs r10 (-1) μ11 _ h) (cwV 2 hts gX6_unchange_X6_puts rfl rfl rfl (by decide +kernel) ⟨Nat.le_of_ble_eq_true rfl, Nat.le_of_ble_eq_true rfl⟩) kM_0 rfl hK hN hP hD rfl hl.1 rfl (Nat.le_of_ble_eq_true rfl) dX6_unchange_39 ⟨Nat.zero_le _, Nat.zero_le _⟩) hS (fun r12 μ13 H locs h hP hD hS => ?_)
        refine lv_if_ge (tgt := 50) hx hb dX6_unchange_42 (by decide) (fun c14 => ?_) (fun c14 => ?_)
        · have h := h.1 c14
          refine lv_aload_n hx hb dX6_unchange_50 rfl (lv_at hl 0 rfl) ?_
          refine lv_iload_n hx hb dX6_unchange_51 rfl (lv_at hl 1 rfl) ?_
          refine zc_i (zc_runV (As := [.int x1]) (rest := []) ⟨hx, hb, hml, hown, hts⟩ (c_X6_count l D cc A ad rs x1 μ13 _ h) (cwV 1 hts gX6_unchange_X6_count rfl rfl rfl (by decide +kernel) ⟨Nat.le_of_ble_eq_true rfl, Nat.le_of_ble_eq_true rfl⟩) kM_0 rfl hK hN hP hD rfl hl.1 rfl (Nat.le_of_ble_eq_true rfl) dX6_unchange_52 ⟨Nat.zero_le _, Nat.zero_le _⟩) hS (fun r15 μ16 H locs h hP hD hS => ?_)
          exact W.iret (v := r15) hx hb hr (fun t ht hW => ⟨⟨r15, μ16, rfl, h, PW.to hK hN hP hD t ht hW⟩, hS.F ht⟩) hS.2.2 dX6_unchange_55
        · have h := h.2 c14
          refine lv_bipush (v := (-5)) hx hb dX6_unchange_45 (by decide) ?_
          refine lv_goto (tgt := 55) hx hb dX6_unchange_47 (by decide) ?_
          exact W.iret (v := (-5)) hx hb hr (fun t ht hW => ⟨⟨(-5), μ13, rfl, h, PW.to hK hN hP hD t ht hW⟩, hS.F ht⟩) hS.2.2 dX6_unchange_55
      · have h := h.2 c9
        refine lv_iconst (v := (-1)) hx hb dX6_unchange_24 (by decide) ?_
        exact W.iret (v := (-1)) hx hb hr (fun t ht hW => ⟨⟨(-1), μ8, rfl, h, PW.to hK hN hP hD t ht hW⟩, hS.F ht⟩) hS.2.2 dX6_unchange_25
set_option maxHeartbeats 4000000 in
set_option maxRecDepth 100000 in
theorem c_X6_swap (l : Launch) (D : va_G) (cc : Nat → ClassId) (A : Nat → Prop) (ad : Nat → Nat) (rs : va_W) (x1 : Int32) (x2 : Int32) (μ : Mem) (K : Int32 → Mem → Prop) (h : f_X6_swap x1 x2 μ K) : Met l yX6_swap wsX6_swap ({ frames := 0, cells := 0, slots := 0, locals := 0 }) (va_Pc [.ref (ad 0), .int x1, .int x2] (PW shM 18 D cc A ad rs μ)) (va_Qi K (PW shM 18 D cc A ad rs) A) 0 0 A := by
  refine Met.ofW (cc := cX6_swap) (maxL := 4) (ret := (some .int)) (by decide) rfl ?_
  intro p e s m args below meth c s₁ BB hml hv
  obtain ⟨rfl, hP, hK, hD, hN⟩ := hv
  have hx := BB.exec
  have hb := BB.bytes
  have hr := BB.returns
  have hts := atoms_spec (ws := wsX6_swap) BB.pre
  have hown : s.vm.findClass RX6 = some m.cls := findClass_of_methodNamed BB.named
  have hlocks := BB.notSynchronized
  have hi_X6 : ∀ w ∈ u_ws RX6 TX6 22, w ∈ wsX6_swap := by decide +kernel
  have hw0 := hts (.fieldLink RX6 7 "FeatureClashesModel" "v" "[I") (by decide +kernel)
  have hS : va_S A s.heap s.heap [] := va_S.rf
  have hl := lv_entry ([.ref (ad 0), .int x1, .int x2]) (n := 4) (Nat.le_of_ble_eq_true rfl)
  rw [lg_entry_eq]
  generalize (lg_sl ([.ref (ad 0), .int x1, .int x2]) ++ List.replicate (4 - (lg_sl ([.ref (ad 0), .int x1, .int x2])).length) Slot.unset).toArray = ls at hl ⊢
  have hl : lv_has ls 4 [(0, .ref (ad 0)), (1, .int x1), (2, .int x2)] := hl
  unfold f_X6_swap at h
  refine lv_aload_n hx hb dX6_swap_0 rfl (lv_at hl 0 rfl) ?_
  refine zw_get (C := RX6) (T := TX6) (M := 22) (v := .ref (ad 1)) hx hb hts hi_X6 hown hK hP kM_0 rfl 0 (by decide) hw0 rfl dX6_swap_1 ?_
  refine lv_iload_n hx hb dX6_swap_4 rfl (lv_at hl 1 rfl) ?_
  obtain ⟨hi1, h⟩ := h
  refine zw_iald hx hb hK hP kM_1 hi1 dX6_swap_5 ?_
  refine lv_topi (fun y2 ey2 => ?_)
  have h := h y2 ey2
  refine lv_istore_n (lv' := [(3, .int y2), (0, .ref (ad 0)), (1, .int x1), (2, .int x2)]) hx hb dX6_swap_6 rfl hl (by decide) rfl (fun ls hl => ?_)
  refine lv_aload_n hx hb dX6_swap_7 rfl (lv_at hl 1 rfl) ?_
  refine zw_get (C := RX6) (T := TX6) (M := 22) (v := .ref (ad 1)) hx hb hts hi_X6 hown hK hP kM_0 rfl 0 (by decide) hw0 rfl dX6_swap_8 ?_
  refine lv_iload_n hx hb dX6_swap_11 rfl (lv_at hl 2 rfl) ?_
  refine lv_iload_n hx hb dX6_swap_12 rfl (lv_at hl 3 rfl) ?_
  obtain ⟨hi3, h⟩ := h
  refine zw_iast hx hb hK hP hD hS kM_1 hi3 dX6_swap_13 (fun μ4 H locs eμ4 hP hD hS => ?_)
  have h := h μ4 eμ4
  refine lv_iload_n hx hb dX6_swap_14 rfl (lv_at hl 0 rfl) ?_
  exact W.iret (v := y2) hx hb hr (fun t ht hW => ⟨⟨y2, μ4, rfl, h, PW.to hK hN hP hD t ht hW⟩, hS.F ht⟩) hS.2.2 dX6_swap_15
set_option maxHeartbeats 4000000 in
set_option maxRecDepth 100000 in
theorem c_X6_setOn (l : Launch) (D : va_G) (cc : Nat → ClassId) (A : Nat → Prop) (ad : Nat → Nat) (rs : va_W) (x1 : Int32) (x2 : Int32) (μ : Mem) (K : Int32 → Mem → Prop) (h : f_X6_setOn x1 x2 μ K) : Met l yX6_setOn wsX6_setOn ({ frames := 2, cells := 0, slots := 0, locals := 43 }) (va_Pc [.ref (ad 0), .int x1, .int x2] (PW shM 18 D cc A ad rs μ)) (va_Qi K (PW shM 18 D cc A ad rs) A) 0 0 A := by
  refine Met.ofW (cc := cX6_setOn) (maxL := 3) (ret := (some .int)) (by decide) rfl ?_
  intro p e s m args below meth c s₁ BB hml hv
  obtain ⟨rfl, hP, hK, hD, hN⟩ := hv
  have hx := BB.exec
  have hb := BB.bytes
  have hr := BB.returns
  have hts := atoms_spec (ws := wsX6_setOn) BB.pre
  have hown : s.vm.findClass RX6 = some m.cls := findClass_of_methodNamed BB.named
  have hlocks := BB.notSynchronized
  have hS : va_S A s.heap s.heap [] := va_S.rf
  have hl := lv_entry ([.ref (ad 0), .int x1, .int x2]) (n := 3) (Nat.le_of_ble_eq_true rfl)
  rw [lg_entry_eq]
  generalize (lg_sl ([.ref (ad 0), .int x1, .int x2]) ++ List.replicate (3 - (lg_sl ([.ref (ad 0), .int x1, .int x2])).length) Slot.unset).toArray = ls at hl ⊢
  have hl : lv_has ls 3 [(0, .ref (ad 0)), (1, .int x1), (2, .int x2)] := hl
  unfold f_X6_setOn at h
  refine (fun h => ?main) (h (fun z0 z1 μ => ∀ (H1 : Heap) (locs : List Loc) (ls : Array Slot), va_P D vwCl (wW shM 18 cc ad μ ++ rs) H1 → va_D A (wW shM 18 cc ad μ ++ rs) → va_S A s.heap H1 locs → lv_has ls 3 [] → W p l e (headSpec wsX6_setOn ({ frames := 2, cells := 0, slots := 0, locals := 43 })).room s m ([.ref (ad 0), .int x1, .int x2] : List Value).toArray below meth c H1 locs 0 0 (MQ below (va_Qi K (PW shM 18 D cc A ad rs) A) ([.ref (ad 0), .int x1, .int x2] : List Value).toArray s 0 0 A) (F0 m 25 ls ([.int z0, .int z1, .ref (ad 0)]))) ?b25)
  case main =>
      refine lv_aload_n hx hb dX6_setOn_0 rfl (lv_at hl 0 rfl) ?_
      refine lv_iload_n hx hb dX6_setOn_1 rfl (lv_at hl 1 rfl) ?_
      refine zc_i (zc_runV (As := [.int x1]) (rest := []) ⟨hx, hb, hml, hown, hts⟩ (c_X6_isFeature l D cc A ad rs x1 μ _ h) (cwV 1 hts gX6_setOn_X6_isFeature rfl rfl rfl (by decide +kernel) ⟨Nat.le_of_ble_eq_true rfl, Nat.le_of_ble_eq_true rfl⟩) kM_0 rfl hK hN hP hD rfl hl.1 rfl (Nat.le_of_ble_eq_true rfl) dX6_setOn_2 ⟨Nat.zero_le _, Nat.zero_le _⟩) hS (fun r1 μ2 H locs h hP hD hS => ?_)
      refine lv_if_ne (tgt := 10) hx hb dX6_setOn_5 (by decide) (fun c3 => ?_) (fun c3 => ?_)
      · have h := h.1 c3
        refine lv_aload_n hx hb dX6_setOn_10 rfl (lv_at hl 0 rfl) ?_
        refine lv_iload_n hx hb dX6_setOn_11 rfl (lv_at hl 1 rfl) ?_
        refine lv_iconst (v := 0) hx hb dX6_setOn_12 (by decide) ?_
        refine zc_i (zc_runS (As := [.int x1, .int 0]) (rest := [.ref (ad 0)]) ⟨hx, hb, hml, hown, hts⟩ (c_X6_at l D cc A ad rs x1 0 μ2 _ h) (va_cwS 2 hts gX6_setOn_X6_at rfl rfl rfl (by decide +kernel) ⟨Nat.le_of_ble_eq_true rfl, Nat.le_of_ble_eq_true rfl⟩) hK hN hP hD rfl hl.1 rfl (Nat.le_of_ble_eq_true rfl) dX6_setOn_13 ⟨Nat.zero_le _, Nat.zero_le _⟩) hS (fun r4 μ5 H locs h hP hD hS => ?_)
        refine lv_iload_n hx hb dX6_setOn_16 rfl (lv_at hl 2 rfl) ?_
        refine lv_if_eq (tgt := 24) hx hb dX6_setOn_17 (by decide) (fun c6 => ?_) (fun c6 => ?_)
        · have h := h.1 c6
          refine lv_iconst (v := 0) hx hb dX6_setOn_24 (by decide) ?_
          exact h _ _ _ hP hD hS (lv_sub hl [] rfl)
        · have h := h.2 c6
          refine lv_iconst (v := 1) hx hb dX6_setOn_20 (by decide) ?_
          refine lv_goto (tgt := 25) hx hb dX6_setOn_21 (by decide) ?_
          exact h _ _ _ hP hD hS (lv_sub hl [] rfl)
      · have h := h.2 c3
        refine lv_iconst (v := (-1)) hx hb dX6_setOn_8 (by decide) ?_
        exact W.iret (v := (-1)) hx hb hr (fun t ht hW => ⟨⟨(-1), μ2, rfl, h, PW.to hK hN hP hD t ht hW⟩, hS.F ht⟩) hS.2.2 dX6_setOn_9
  case b25 =>
    intro z0 z1 μ h H locs ls hP hD hS hl
    refine zc_i (zc_runV (As := [.int z1, .int z0]) (rest := []) ⟨hx, hb, hml, hown, hts⟩ (c_X6_swap l D cc A ad rs z1 z0 μ _ h) (cwV 2 hts gX6_setOn_X6_swap rfl rfl rfl (by decide +kernel) ⟨Nat.le_of_ble_eq_true rfl, Nat.le_of_ble_eq_true rfl⟩) kM_0 rfl hK hN hP hD rfl hl.1 rfl (Nat.le_of_ble_eq_true rfl) dX6_setOn_25 ⟨Nat.zero_le _, Nat.zero_le _⟩) hS (fun r7 μ8 H locs h hP hD hS => ?_)
    exact W.iret (v := r7) hx hb hr (fun t ht hW => ⟨⟨r7, μ8, rfl, h, PW.to hK hN hP hD t ht hW⟩, hS.F ht⟩) hS.2.2 dX6_setOn_28
set_option maxHeartbeats 4000000 in
set_option maxRecDepth 100000 in
theorem c_X6_features (l : Launch) (D : va_G) (cc : Nat → ClassId) (A : Nat → Prop) (ad : Nat → Nat) (rs : va_W)  (μ : Mem) (K : Int32 → Mem → Prop) (h : f_X6_features  μ K) : Met l yX6_features wsX6_features ({ frames := 0, cells := 0, slots := 0, locals := 0 }) (va_Pc [.ref (ad 0)] (PW shM 18 D cc A ad rs μ)) (va_Qi K (PW shM 18 D cc A ad rs) A) 0 0 A := by
  refine Met.ofW (cc := cX6_features) (maxL := 1) (ret := (some .int)) (by decide) rfl ?_
  intro p e s m args below meth c s₁ BB hml hv
  obtain ⟨rfl, hP, hK, hD, hN⟩ := hv
  have hx := BB.exec
  have hb := BB.bytes
  have hr := BB.returns
  have hts := atoms_spec (ws := wsX6_features) BB.pre
  have hown : s.vm.findClass RX6 = some m.cls := findClass_of_methodNamed BB.named
  have hlocks := BB.notSynchronized
  have hi_X6 : ∀ w ∈ u_ws RX6 TX6 22, w ∈ wsX6_features := by decide +kernel
  have hw0 := hts (.fieldLink RX6 7 "FeatureClashesModel" "v" "[I") (by decide +kernel)
  have hS : va_S A s.heap s.heap [] := va_S.rf
  have hl := lv_entry ([.ref (ad 0)]) (n := 1) (Nat.le_of_ble_eq_true rfl)
  rw [lg_entry_eq]
  generalize (lg_sl ([.ref (ad 0)]) ++ List.replicate (1 - (lg_sl ([.ref (ad 0)])).length) Slot.unset).toArray = ls at hl ⊢
  have hl : lv_has ls 1 [(0, .ref (ad 0))] := hl
  unfold f_X6_features at h
  refine lv_aload_n hx hb dX6_features_0 rfl (lv_at hl 0 rfl) ?_
  refine zw_get (C := RX6) (T := TX6) (M := 22) (v := .ref (ad 1)) hx hb hts hi_X6 hown hK hP kM_0 rfl 0 (by decide) hw0 rfl dX6_features_1 ?_
  refine lv_bipush (v := 34) hx hb dX6_features_4 (by decide) ?_
  obtain ⟨hi1, h⟩ := h
  refine zw_iald hx hb hK hP kM_1 hi1 dX6_features_6 ?_
  exact W.iret (v := μ.1 1 (34 : Int32).toNatClampNeg) hx hb hr (fun t ht hW => ⟨⟨μ.1 1 (34 : Int32).toNatClampNeg, μ, rfl, h, PW.to hK hN hP hD t ht hW⟩, hS.F ht⟩) hS.2.2 dX6_features_7
set_option maxHeartbeats 4000000 in
set_option maxRecDepth 100000 in
theorem c_X6_changes (l : Launch) (D : va_G) (cc : Nat → ClassId) (A : Nat → Prop) (ad : Nat → Nat) (rs : va_W) (x1 : Int32) (μ : Mem) (K : Int32 → Mem → Prop) (h : f_X6_changes x1 μ K) : Met l yX6_changes wsX6_changes ({ frames := 2, cells := 0, slots := 0, locals := 44 }) (va_Pc [.ref (ad 0), .int x1] (PW shM 18 D cc A ad rs μ)) (va_Qi K (PW shM 18 D cc A ad rs) A) 0 0 A := by
  refine Met.ofW (cc := cX6_changes) (maxL := 2) (ret := (some .int)) (by decide) rfl ?_
  intro p e s m args below meth c s₁ BB hml hv
  obtain ⟨rfl, hP, hK, hD, hN⟩ := hv
  have hx := BB.exec
  have hb := BB.bytes
  have hr := BB.returns
  have hts := atoms_spec (ws := wsX6_changes) BB.pre
  have hown : s.vm.findClass RX6 = some m.cls := findClass_of_methodNamed BB.named
  have hlocks := BB.notSynchronized
  have hS : va_S A s.heap s.heap [] := va_S.rf
  have hl := lv_entry ([.ref (ad 0), .int x1]) (n := 2) (Nat.le_of_ble_eq_true rfl)
  rw [lg_entry_eq]
  generalize (lg_sl ([.ref (ad 0), .int x1]) ++ List.replicate (2 - (lg_sl ([.ref (ad 0), .int x1])).length) Slot.unset).toArray = ls at hl ⊢
  have hl : lv_has ls 2 [(0, .ref (ad 0)), (1, .int x1)] := hl
  unfold f_X6_changes at h
  refine lv_aload_n hx hb dX6_changes_0 rfl (lv_at hl 0 rfl) ?_
  refine lv_iload_n hx hb dX6_changes_1 rfl (lv_at hl 1 rfl) ?_
  refine zc_i (zc_runV (As := [.int x1]) (rest := []) ⟨hx, hb, hml, hown, hts⟩ (c_X6_isFeature l D cc A ad rs x1 μ _ h) (cwV 1 hts gX6_changes_X6_isFeature rfl rfl rfl (by decide +kernel) ⟨Nat.le_of_ble_eq_true rfl, Nat.le_of_ble_eq_true rfl⟩) kM_0 rfl hK hN hP hD rfl hl.1 rfl (Nat.le_of_ble_eq_true rfl) dX6_changes_2 ⟨Nat.zero_le _, Nat.zero_le _⟩) hS (fun r1 μ2 H locs h hP hD hS => ?_)
  refine lv_if_eq (tgt := 16) hx hb dX6_changes_5 (by decide) (fun c3 => ?_) (fun c3 => ?_)
  · have h := h.1 c3
    refine lv_iconst (v := (-1)) hx hb dX6_changes_16 (by decide) ?_
    exact W.iret (v := (-1)) hx hb hr (fun t ht hW => ⟨⟨(-1), μ2, rfl, h, PW.to hK hN hP hD t ht hW⟩, hS.F ht⟩) hS.2.2 dX6_changes_17
  · have h := h.2 c3
    refine lv_aload_n hx hb dX6_changes_8 rfl (lv_at hl 0 rfl) ?_
    refine lv_iload_n hx hb dX6_changes_9 rfl (lv_at hl 1 rfl) ?_
    refine zc_i (zc_runV (As := [.int x1]) (rest := []) ⟨hx, hb, hml, hown, hts⟩ (c_X6_count l D cc A ad rs x1 μ2 _ h) (cwV 1 hts gX6_changes_X6_count rfl rfl rfl (by decide +kernel) ⟨Nat.le_of_ble_eq_true rfl, Nat.le_of_ble_eq_true rfl⟩) kM_0 rfl hK hN hP hD rfl hl.1 rfl (Nat.le_of_ble_eq_true rfl) dX6_changes_10 ⟨Nat.zero_le _, Nat.zero_le _⟩) hS (fun r4 μ5 H locs h hP hD hS => ?_)
    refine lv_goto (tgt := 17) hx hb dX6_changes_13 (by decide) ?_
    exact W.iret (v := r4) hx hb hr (fun t ht hW => ⟨⟨r4, μ5, rfl, h, PW.to hK hN hP hD t ht hW⟩, hS.F ht⟩) hS.2.2 dX6_changes_17
set_option maxHeartbeats 4000000 in
set_option maxRecDepth 100000 in
theorem c_X6_append (l : Launch) (D : va_G) (cc : Nat → ClassId) (A : Nat → Prop) (ad : Nat → Nat) (rs : va_W) (x1 : Int32) (μ : Mem) (K : Int32 → Mem → Prop) (h : f_X6_append x1 μ K) : Met l yX6_append wsX6_append ({ frames := 1, cells := 0, slots := 0, locals := 22 }) (va_Pc [.ref (ad 0), .int x1] (PW shM 18 D cc A ad rs μ)) (va_Qi K (PW shM 18 D cc A ad rs) A) 0 0 A := by
  refine Met.ofW (cc := cX6_append) (maxL := 2) (ret := (some .int)) (by decide) rfl ?_
  intro p e s m args below meth c s₁ BB hml hv
  obtain ⟨rfl, hP, hK, hD, hN⟩ := hv
  have hx := BB.exec
  have hb := BB.bytes
  have hr := BB.returns
  have hts := atoms_spec (ws := wsX6_append) BB.pre
  have hown : s.vm.findClass RX6 = some m.cls := findClass_of_methodNamed BB.named
  have hlocks := BB.notSynchronized
  have hi_X6 : ∀ w ∈ u_ws RX6 TX6 22, w ∈ wsX6_append := by decide +kernel
  have hw0 := hts (.fieldLink RX6 102 "FeatureClashesModel" "length" "I") (by decide +kernel)
  have hw1 := hts (.fieldLink RX6 23 "FeatureClashesModel" "text" "[I") (by decide +kernel)
  have hS : va_S A s.heap s.heap [] := va_S.rf
  have hl := lv_entry ([.ref (ad 0), .int x1]) (n := 2) (Nat.le_of_ble_eq_true rfl)
  rw [lg_entry_eq]
  generalize (lg_sl ([.ref (ad 0), .int x1]) ++ List.replicate (2 - (lg_sl ([.ref (ad 0), .int x1])).length) Slot.unset).toArray = ls at hl ⊢
  have hl : lv_has ls 2 [(0, .ref (ad 0)), (1, .int x1)] := hl
  unfold f_X6_append at h
  refine lv_iload_n hx hb dX6_append_0 rfl (lv_at hl 1 rfl) ?_
  refine lv_iconst (v := 0) hx hb dX6_append_1 (by decide) ?_
  refine lv_bipush (v := 127) hx hb dX6_append_2 (by decide) ?_
  refine zc_i (zc_runS (As := [.int x1, .int 0, .int 127]) (rest := []) ⟨hx, hb, hml, hown, hts⟩ (c_X6_in l D cc A ad rs x1 0 127 μ _ h) (va_cwS 3 hts gX6_append_X6_in rfl rfl rfl (by decide +kernel) ⟨Nat.le_of_ble_eq_true rfl, Nat.le_of_ble_eq_true rfl⟩) hK hN hP hD rfl hl.1 rfl (Nat.le_of_ble_eq_true rfl) dX6_append_4 ⟨Nat.zero_le _, Nat.zero_le _⟩) hS (fun r1 μ2 H locs h hP hD hS => ?_)
  refine lv_if_ne (tgt := 13) hx hb dX6_append_7 (by decide) (fun c3 => ?_) (fun c3 => ?_)
  · have h := h.1 c3
    refine lv_aload_n hx hb dX6_append_13 rfl (lv_at hl 0 rfl) ?_
    refine zw_get (C := RX6) (T := TX6) (M := 22) (v := .int (μ2.1 0 6)) hx hb hts hi_X6 hown hK hP kM_0 rfl 6 (by decide) hw0 rfl dX6_append_14 ?_
    refine lv_bipush (v := 80) hx hb dX6_append_17 (by decide) ?_
    refine lv_icmp_ne (tgt := 25) hx hb dX6_append_19 (by decide) (fun c4 => ?_) (fun c4 => ?_)
    · have h := h.1 c4
      refine lv_aload_n hx hb dX6_append_25 rfl (lv_at hl 0 rfl) ?_
      refine zw_get (C := RX6) (T := TX6) (M := 22) (v := .ref (ad 5)) hx hb hts hi_X6 hown hK hP kM_0 rfl 5 (by decide) hw1 rfl dX6_append_26 ?_
      refine lv_aload_n hx hb dX6_append_29 rfl (lv_at hl 0 rfl) ?_
      refine zw_get (C := RX6) (T := TX6) (M := 22) (v := .int (μ2.1 0 6)) hx hb hts hi_X6 hown hK hP kM_0 rfl 6 (by decide) hw0 rfl dX6_append_30 ?_
      refine lv_iload_n hx hb dX6_append_33 rfl (lv_at hl 1 rfl) ?_
      obtain ⟨hi5, h⟩ := h
      refine zw_iast hx hb hK hP hD hS kM_5 hi5 dX6_append_34 (fun μ6 H locs eμ6 hP hD hS => ?_)
      have h := h μ6 eμ6
      refine lv_aload_n hx hb dX6_append_35 rfl (lv_at hl 0 rfl) ?_
      refine lv_dup hx hb dX6_append_36 rfl ?_
      refine zw_get (C := RX6) (T := TX6) (M := 22) (v := .int (μ6.1 0 6)) hx hb hts hi_X6 hown hK hP kM_0 rfl 6 (by decide) hw0 rfl dX6_append_37 ?_
      refine lv_iconst (v := 1) hx hb dX6_append_40 (by decide) ?_
      refine lv_iadd hx hb dX6_append_41 ?_
      refine zw_put (C := RX6) (T := TX6) (M := 22) hx hb hts hi_X6 tyX6 tyX6_ok nmX6 hown hK hP hD hS kM_0 rfl 6 (by decide) hw0 rfl rfl (Nat.le_of_ble_eq_true rfl) rfl dX6_append_42 (fun μ7 H locs eμ7 hP hD hS => ?_)
      have h := h μ7 eμ7
      refine lv_aload_n hx hb dX6_append_45 rfl (lv_at hl 0 rfl) ?_
      refine zw_get (C := RX6) (T := TX6) (M := 22) (v := .int (μ7.1 0 6)) hx hb hts hi_X6 hown hK hP kM_0 rfl 6 (by decide) hw0 rfl dX6_append_46 ?_
      exact W.iret (v := μ7.1 0 6) hx hb hr (fun t ht hW => ⟨⟨μ7.1 0 6, μ7, rfl, h, PW.to hK hN hP hD t ht hW⟩, hS.F ht⟩) hS.2.2 dX6_append_49
    · have h := h.2 c4
      refine lv_bipush (v := (-4)) hx hb dX6_append_22 (by decide) ?_
      exact W.iret (v := (-4)) hx hb hr (fun t ht hW => ⟨⟨(-4), μ2, rfl, h, PW.to hK hN hP hD t ht hW⟩, hS.F ht⟩) hS.2.2 dX6_append_24
  · have h := h.2 c3
    refine lv_bipush (v := (-2)) hx hb dX6_append_10 (by decide) ?_
    exact W.iret (v := (-2)) hx hb hr (fun t ht hW => ⟨⟨(-2), μ2, rfl, h, PW.to hK hN hP hD t ht hW⟩, hS.F ht⟩) hS.2.2 dX6_append_12
set_option maxHeartbeats 4000000 in
set_option maxRecDepth 100000 in
theorem c_X6_clearText (l : Launch) (D : va_G) (cc : Nat → ClassId) (A : Nat → Prop) (ad : Nat → Nat) (rs : va_W)  (μ : Mem) (K : Int32 → Mem → Prop) (h : f_X6_clearText  μ K) : Met l yX6_clearText wsX6_clearText ({ frames := 0, cells := 0, slots := 0, locals := 0 }) (va_Pc [.ref (ad 0)] (PW shM 18 D cc A ad rs μ)) (va_Qi K (PW shM 18 D cc A ad rs) A) 0 0 A := by
  refine Met.ofW (cc := cX6_clearText) (maxL := 2) (ret := (some .int)) (by decide) rfl ?_
  intro p e s m args below meth c s₁ BB hml hv
  obtain ⟨rfl, hP, hK, hD, hN⟩ := hv
  have hx := BB.exec
  have hb := BB.bytes
  have hr := BB.returns
  have hts := atoms_spec (ws := wsX6_clearText) BB.pre
  have hown : s.vm.findClass RX6 = some m.cls := findClass_of_methodNamed BB.named
  have hlocks := BB.notSynchronized
  have hi_X6 : ∀ w ∈ u_ws RX6 TX6 22, w ∈ wsX6_clearText := by decide +kernel
  have hw0 := hts (.fieldLink RX6 102 "FeatureClashesModel" "length" "I") (by decide +kernel)
  have hS : va_S A s.heap s.heap [] := va_S.rf
  have hl := lv_entry ([.ref (ad 0)]) (n := 2) (Nat.le_of_ble_eq_true rfl)
  rw [lg_entry_eq]
  generalize (lg_sl ([.ref (ad 0)]) ++ List.replicate (2 - (lg_sl ([.ref (ad 0)])).length) Slot.unset).toArray = ls at hl ⊢
  have hl : lv_has ls 2 [(0, .ref (ad 0))] := hl
  unfold f_X6_clearText at h
  refine lv_aload_n hx hb dX6_clearText_0 rfl (lv_at hl 0 rfl) ?_
  refine zw_get (C := RX6) (T := TX6) (M := 22) (v := .int (μ.1 0 6)) hx hb hts hi_X6 hown hK hP kM_0 rfl 6 (by decide) hw0 rfl dX6_clearText_1 ?_
  refine lv_topi (fun y1 ey1 => ?_)
  have h := h y1 ey1
  refine lv_istore_n (lv' := [(1, .int y1), (0, .ref (ad 0))]) hx hb dX6_clearText_4 rfl hl (by decide) rfl (fun ls hl => ?_)
  refine lv_aload_n hx hb dX6_clearText_5 rfl (lv_at hl 1 rfl) ?_
  refine lv_iconst (v := 0) hx hb dX6_clearText_6 (by decide) ?_
  refine zw_put (C := RX6) (T := TX6) (M := 22) hx hb hts hi_X6 tyX6 tyX6_ok nmX6 hown hK hP hD hS kM_0 rfl 6 (by decide) hw0 rfl rfl (Nat.le_of_ble_eq_true rfl) rfl dX6_clearText_7 (fun μ2 H locs eμ2 hP hD hS => ?_)
  have h := h μ2 eμ2
  refine lv_iload_n hx hb dX6_clearText_10 rfl (lv_at hl 0 rfl) ?_
  exact W.iret (v := y1) hx hb hr (fun t ht hW => ⟨⟨y1, μ2, rfl, h, PW.to hK hN hP hD t ht hW⟩, hS.F ht⟩) hS.2.2 dX6_clearText_11
set_option maxHeartbeats 4000000 in
set_option maxRecDepth 100000 in
theorem c_X6_here (l : Launch) (D : va_G) (cc : Nat → ClassId) (A : Nat → Prop) (ad : Nat → Nat) (rs : va_W)  (μ : Mem) (K : Int32 → Mem → Prop) (h : f_X6_here  μ K) : Met l yX6_here wsX6_here ({ frames := 0, cells := 0, slots := 0, locals := 0 }) (va_Pc [.ref (ad 0)] (PW shM 18 D cc A ad rs μ)) (va_Qi K (PW shM 18 D cc A ad rs) A) 0 0 A := by
  refine Met.ofW (cc := cX6_here) (maxL := 1) (ret := (some .int)) (by decide) rfl ?_
  intro p e s m args below meth c s₁ BB hml hv
  obtain ⟨rfl, hP, hK, hD, hN⟩ := hv
  have hx := BB.exec
  have hb := BB.bytes
  have hr := BB.returns
  have hts := atoms_spec (ws := wsX6_here) BB.pre
  have hown : s.vm.findClass RX6 = some m.cls := findClass_of_methodNamed BB.named
  have hlocks := BB.notSynchronized
  have hi_X6 : ∀ w ∈ u_ws RX6 TX6 22, w ∈ wsX6_here := by decide +kernel
  have hw0 := hts (.fieldLink RX6 105 "FeatureClashesModel" "place" "I") (by decide +kernel)
  have hw1 := hts (.fieldLink RX6 102 "FeatureClashesModel" "length" "I") (by decide +kernel)
  have hw2 := hts (.fieldLink RX6 23 "FeatureClashesModel" "text" "[I") (by decide +kernel)
  have hS : va_S A s.heap s.heap [] := va_S.rf
  have hl := lv_entry ([.ref (ad 0)]) (n := 1) (Nat.le_of_ble_eq_true rfl)
  rw [lg_entry_eq]
  generalize (lg_sl ([.ref (ad 0)]) ++ List.replicate (1 - (lg_sl ([.ref (ad 0)])).length) Slot.unset).toArray = ls at hl ⊢
  have hl : lv_has ls 1 [(0, .ref (ad 0))] := hl
  unfold f_X6_here at h
  refine lv_aload_n hx hb dX6_here_0 rfl (lv_at hl 0 rfl) ?_
  refine zw_get (C := RX6) (T := TX6) (M := 22) (v := .int (μ.1 0 7)) hx hb hts hi_X6 hown hK hP kM_0 rfl 7 (by decide) hw0 rfl dX6_here_1 ?_
  refine lv_aload_n hx hb dX6_here_4 rfl (lv_at hl 0 rfl) ?_
  refine zw_get (C := RX6) (T := TX6) (M := 22) (v := .int (μ.1 0 6)) hx hb hts hi_X6 hown hK hP kM_0 rfl 6 (by decide) hw1 rfl dX6_here_5 ?_
  refine lv_icmp_ge (tgt := 23) hx hb dX6_here_8 (by decide) (fun c1 => ?_) (fun c1 => ?_)
  · have h := h.1 c1
    refine lv_iconst (v := (-1)) hx hb dX6_here_23 (by decide) ?_
    exact W.iret (v := (-1)) hx hb hr (fun t ht hW => ⟨⟨(-1), μ, rfl, h, PW.to hK hN hP hD t ht hW⟩, hS.F ht⟩) hS.2.2 dX6_here_24
  · have h := h.2 c1
    refine lv_aload_n hx hb dX6_here_11 rfl (lv_at hl 0 rfl) ?_
    refine zw_get (C := RX6) (T := TX6) (M := 22) (v := .ref (ad 5)) hx hb hts hi_X6 hown hK hP kM_0 rfl 5 (by decide) hw2 rfl dX6_here_12 ?_
    refine lv_aload_n hx hb dX6_here_15 rfl (lv_at hl 0 rfl) ?_
    refine zw_get (C := RX6) (T := TX6) (M := 22) (v := .int (μ.1 0 7)) hx hb hts hi_X6 hown hK hP kM_0 rfl 7 (by decide) hw0 rfl dX6_here_16 ?_
    obtain ⟨hi2, h⟩ := h
    refine zw_iald hx hb hK hP kM_5 hi2 dX6_here_19 ?_
    refine lv_goto (tgt := 24) hx hb dX6_here_20 (by decide) ?_
    exact W.iret (v := μ.1 5 (μ.1 0 7 : Int32).toNatClampNeg) hx hb hr (fun t ht hW => ⟨⟨μ.1 5 (μ.1 0 7 : Int32).toNatClampNeg, μ, rfl, h, PW.to hK hN hP hD t ht hW⟩, hS.F ht⟩) hS.2.2 dX6_here_24
set_option maxHeartbeats 4000000 in
set_option maxRecDepth 100000 in
theorem c_X6_takes (l : Launch) (D : va_G) (cc : Nat → ClassId) (A : Nat → Prop) (ad : Nat → Nat) (rs : va_W) (x1 : Int32) (μ : Mem) (K : Int32 → Mem → Prop) (h : f_X6_takes x1 μ K) : Met l yX6_takes wsX6_takes ({ frames := 1, cells := 0, slots := 0, locals := 20 }) (va_Pc [.ref (ad 0), .int x1] (PW shM 18 D cc A ad rs μ)) (va_Qi K (PW shM 18 D cc A ad rs) A) 0 0 A := by
  refine Met.ofW (cc := cX6_takes) (maxL := 3) (ret := (some .boolean)) (by decide) rfl ?_
  intro p e s m args below meth c s₁ BB hml hv
  obtain ⟨rfl, hP, hK, hD, hN⟩ := hv
  have hx := BB.exec
  have hb := BB.bytes
  have hr := BB.returns
  have hts := atoms_spec (ws := wsX6_takes) BB.pre
  have hown : s.vm.findClass RX6 = some m.cls := findClass_of_methodNamed BB.named
  have hlocks := BB.notSynchronized
  have hi_X6 : ∀ w ∈ u_ws RX6 TX6 22, w ∈ wsX6_takes := by decide +kernel
  have hw0 := hts (.fieldLink RX6 105 "FeatureClashesModel" "place" "I") (by decide +kernel)
  have hS : va_S A s.heap s.heap [] := va_S.rf
  have hl := lv_entry ([.ref (ad 0), .int x1]) (n := 3) (Nat.le_of_ble_eq_true rfl)
  rw [lg_entry_eq]
  generalize (lg_sl ([.ref (ad 0), .int x1]) ++ List.replicate (3 - (lg_sl ([.ref (ad 0), .int x1])).length) Slot.unset).toArray = ls at hl ⊢
  have hl : lv_has ls 3 [(0, .ref (ad 0)), (1, .int x1)] := hl
  unfold f_X6_takes at h
  refine (fun h => ?main) (h (fun z0 μ => ∀ (H1 : Heap) (locs : List Loc) (ls : Array Slot), va_P D vwCl (wW shM 18 cc ad μ ++ rs) H1 → va_D A (wW shM 18 cc ad μ ++ rs) → va_S A s.heap H1 locs → lv_has ls 3 [(0, .ref (ad 0))] → W p l e (headSpec wsX6_takes ({ frames := 1, cells := 0, slots := 0, locals := 20 })).room s m ([.ref (ad 0), .int x1] : List Value).toArray below meth c H1 locs 0 0 (MQ below (va_Qi K (PW shM 18 D cc A ad rs) A) ([.ref (ad 0), .int x1] : List Value).toArray s 0 0 A) (F0 m 13 ls ([.int z0]))) ?b13)
  case main =>
      refine lv_aload_n hx hb dX6_takes_0 rfl (lv_at hl 0 rfl) ?_
      refine zc_i (zc_runV (As := []) (rest := []) ⟨hx, hb, hml, hown, hts⟩ (c_X6_here l D cc A ad rs  μ _ h) (cwV 0 hts gX6_takes_X6_here rfl rfl rfl (by decide +kernel) ⟨Nat.le_of_ble_eq_true rfl, Nat.le_of_ble_eq_true rfl⟩) kM_0 rfl hK hN hP hD rfl hl.1 rfl (Nat.le_of_ble_eq_true rfl) dX6_takes_1 ⟨Nat.zero_le _, Nat.zero_le _⟩) hS (fun r1 μ2 H locs h hP hD hS => ?_)
      refine lv_iload_n hx hb dX6_takes_4 rfl (lv_at hl 1 rfl) ?_
      refine lv_icmp_ne (tgt := 12) hx hb dX6_takes_5 (by decide) (fun c3 => ?_) (fun c3 => ?_)
      · have h := h.1 c3
        refine lv_iconst (v := 0) hx hb dX6_takes_12 (by decide) ?_
        exact h _ _ _ hP hD hS (lv_sub hl [0] rfl)
      · have h := h.2 c3
        refine lv_iconst (v := 1) hx hb dX6_takes_8 (by decide) ?_
        refine lv_goto (tgt := 13) hx hb dX6_takes_9 (by decide) ?_
        exact h _ _ _ hP hD hS (lv_sub hl [0] rfl)
  case b13 =>
    intro z0 μ h H locs ls hP hD hS hl
    refine lv_istore_n (lv' := [(2, .int z0), (0, .ref (ad 0))]) hx hb dX6_takes_13 rfl hl (by decide) rfl (fun ls hl => ?_)
    refine lv_aload_n hx hb dX6_takes_14 rfl (lv_at hl 1 rfl) ?_
    refine lv_dup hx hb dX6_takes_15 rfl ?_
    refine zw_get (C := RX6) (T := TX6) (M := 22) (v := .int (μ.1 0 7)) hx hb hts hi_X6 hown hK hP kM_0 rfl 7 (by decide) hw0 rfl dX6_takes_16 ?_
    refine lv_iload_n hx hb dX6_takes_19 rfl (lv_at hl 0 rfl) ?_
    refine lv_if_eq (tgt := 27) hx hb dX6_takes_20 (by decide) (fun c4 => ?_) (fun c4 => ?_)
    · have h := h.1 c4
      refine lv_iconst (v := 0) hx hb dX6_takes_27 (by decide) ?_
      refine lv_iadd hx hb dX6_takes_28 ?_
      refine zw_put (C := RX6) (T := TX6) (M := 22) hx hb hts hi_X6 tyX6 tyX6_ok nmX6 hown hK hP hD hS kM_0 rfl 7 (by decide) hw0 rfl rfl (Nat.le_of_ble_eq_true rfl) rfl dX6_takes_29 (fun μ5 H locs eμ5 hP hD hS => ?_)
      have h := h μ5 eμ5
      refine lv_iload_n hx hb dX6_takes_32 rfl (lv_at hl 0 rfl) ?_
      obtain ⟨hz, h⟩ := h
      exact W.zret (ty := .boolean) (v := z0) hx hb hr hz (fun t ht hW => ⟨⟨z0, μ5, rfl, h, PW.to hK hN hP hD t ht hW⟩, hS.F ht⟩) hS.2.2 dX6_takes_33
    · have h := h.2 c4
      refine lv_iconst (v := 1) hx hb dX6_takes_23 (by decide) ?_
      refine lv_goto (tgt := 28) hx hb dX6_takes_24 (by decide) ?_
      refine lv_iadd hx hb dX6_takes_28 ?_
      refine zw_put (C := RX6) (T := TX6) (M := 22) hx hb hts hi_X6 tyX6 tyX6_ok nmX6 hown hK hP hD hS kM_0 rfl 7 (by decide) hw0 rfl rfl (Nat.le_of_ble_eq_true rfl) rfl dX6_takes_29 (fun μ6 H locs eμ6 hP hD hS => ?_)
      have h := h μ6 eμ6
      refine lv_iload_n hx hb dX6_takes_32 rfl (lv_at hl 0 rfl) ?_
      obtain ⟨hz, h⟩ := h
      exact W.zret (ty := .boolean) (v := z0) hx hb hr hz (fun t ht hW => ⟨⟨z0, μ6, rfl, h, PW.to hK hN hP hD t ht hW⟩, hS.F ht⟩) hS.2.2 dX6_takes_33
set_option maxHeartbeats 4000000 in
set_option maxRecDepth 100000 in
theorem c_X6_digit (l : Launch) (D : va_G) (cc : Nat → ClassId) (A : Nat → Prop) (ad : Nat → Nat) (rs : va_W) (x1 : Int32) (μ : Mem) (K : Int32 → Mem → Prop) (h : f_X6_digit x1 μ K) : Met l yX6_digit wsX6_digit ({ frames := 1, cells := 0, slots := 0, locals := 22 }) (va_Pc [.ref (ad 0), .int x1] (PW shM 18 D cc A ad rs μ)) (va_Qi K (PW shM 18 D cc A ad rs) A) 0 0 A := by
  refine Met.ofW (cc := cX6_digit) (maxL := 3) (ret := (some .int)) (by decide) rfl ?_
  intro p e s m args below meth c s₁ BB hml hv
  obtain ⟨rfl, hP, hK, hD, hN⟩ := hv
  have hx := BB.exec
  have hb := BB.bytes
  have hr := BB.returns
  have hts := atoms_spec (ws := wsX6_digit) BB.pre
  have hown : s.vm.findClass RX6 = some m.cls := findClass_of_methodNamed BB.named
  have hlocks := BB.notSynchronized
  have hi_X6 : ∀ w ∈ u_ws RX6 TX6 22, w ∈ wsX6_digit := by decide +kernel
  have hw0 := hts (.fieldLink RX6 105 "FeatureClashesModel" "place" "I") (by decide +kernel)
  have hS : va_S A s.heap s.heap [] := va_S.rf
  have hl := lv_entry ([.ref (ad 0), .int x1]) (n := 3) (Nat.le_of_ble_eq_true rfl)
  rw [lg_entry_eq]
  generalize (lg_sl ([.ref (ad 0), .int x1]) ++ List.replicate (3 - (lg_sl ([.ref (ad 0), .int x1])).length) Slot.unset).toArray = ls at hl ⊢
  have hl : lv_has ls 3 [(0, .ref (ad 0)), (1, .int x1)] := hl
  unfold f_X6_digit at h
  refine (fun h => ?main) (h (fun b1 b2 z0 z1 μ => ∀ (H1 : Heap) (locs : List Loc) (ls : Array Slot), va_P D vwCl (wW shM 18 cc ad μ ++ rs) H1 → va_D A (wW shM 18 cc ad μ ++ rs) → va_S A s.heap H1 locs → lv_has ls 3 [(1, .int b1), (2, .int b2)] → W p l e (headSpec wsX6_digit ({ frames := 1, cells := 0, slots := 0, locals := 22 })).room s m ([.ref (ad 0), .int x1] : List Value).toArray below meth c H1 locs 0 0 (MQ below (va_Qi K (PW shM 18 D cc A ad rs) A) ([.ref (ad 0), .int x1] : List Value).toArray s 0 0 A) (F0 m 27 ls ([.int z0, .int z1, .ref (ad 0)]))) ?b27)
  case main =>
      refine lv_aload_n hx hb dX6_digit_0 rfl (lv_at hl 0 rfl) ?_
      refine zc_i (zc_runV (As := []) (rest := []) ⟨hx, hb, hml, hown, hts⟩ (c_X6_here l D cc A ad rs  μ _ h) (cwV 0 hts gX6_digit_X6_here rfl rfl rfl (by decide +kernel) ⟨Nat.le_of_ble_eq_true rfl, Nat.le_of_ble_eq_true rfl⟩) kM_0 rfl hK hN hP hD rfl hl.1 rfl (Nat.le_of_ble_eq_true rfl) dX6_digit_1 ⟨Nat.zero_le _, Nat.zero_le _⟩) hS (fun r1 μ2 H locs h hP hD hS => ?_)
      refine lv_bipush (v := 48) hx hb dX6_digit_4 (by decide) ?_
      refine lv_isub hx hb dX6_digit_6 ?_
      refine lv_topi (fun y3 ey3 => ?_)
      have h := h y3 ey3
      refine lv_istore_n (lv' := [(2, .int y3), (0, .ref (ad 0)), (1, .int x1)]) hx hb dX6_digit_7 rfl hl (by decide) rfl (fun ls hl => ?_)
      refine lv_aload_n hx hb dX6_digit_8 rfl (lv_at hl 1 rfl) ?_
      refine lv_dup hx hb dX6_digit_9 rfl ?_
      refine zw_get (C := RX6) (T := TX6) (M := 22) (v := .int (μ2.1 0 7)) hx hb hts hi_X6 hown hK hP kM_0 rfl 7 (by decide) hw0 rfl dX6_digit_10 ?_
      refine lv_iload_n hx hb dX6_digit_13 rfl (lv_at hl 0 rfl) ?_
      refine lv_iconst (v := 0) hx hb dX6_digit_14 (by decide) ?_
      refine lv_iload_n hx hb dX6_digit_15 rfl (lv_at hl 2 rfl) ?_
      refine zc_i (zc_runS (As := [.int y3, .int 0, .int x1]) (rest := [.int (μ2.1 0 7), .ref (ad 0)]) ⟨hx, hb, hml, hown, hts⟩ (c_X6_in l D cc A ad rs y3 0 x1 μ2 _ h) (va_cwS 3 hts gX6_digit_X6_in rfl rfl rfl (by decide +kernel) ⟨Nat.le_of_ble_eq_true rfl, Nat.le_of_ble_eq_true rfl⟩) hK hN hP hD rfl hl.1 rfl (Nat.le_of_ble_eq_true rfl) dX6_digit_16 ⟨Nat.zero_le _, Nat.zero_le _⟩) hS (fun r4 μ5 H locs h hP hD hS => ?_)
      refine lv_if_eq (tgt := 26) hx hb dX6_digit_19 (by decide) (fun c6 => ?_) (fun c6 => ?_)
      · have h := h.1 c6
        refine lv_iconst (v := 0) hx hb dX6_digit_26 (by decide) ?_
        exact h _ _ _ hP hD hS (lv_sub hl [2, 0] rfl)
      · have h := h.2 c6
        refine lv_iconst (v := 1) hx hb dX6_digit_22 (by decide) ?_
        refine lv_goto (tgt := 27) hx hb dX6_digit_23 (by decide) ?_
        exact h _ _ _ hP hD hS (lv_sub hl [2, 0] rfl)
  case b27 =>
    intro b1 b2 z0 z1 μ h H locs ls hP hD hS hl
    refine lv_iadd hx hb dX6_digit_27 ?_
    refine zw_put (C := RX6) (T := TX6) (M := 22) hx hb hts hi_X6 tyX6 tyX6_ok nmX6 hown hK hP hD hS kM_0 rfl 7 (by decide) hw0 rfl rfl (Nat.le_of_ble_eq_true rfl) rfl dX6_digit_28 (fun μ7 H locs eμ7 hP hD hS => ?_)
    have h := h μ7 eμ7
    refine lv_iload_n hx hb dX6_digit_31 rfl (lv_at hl 1 rfl) ?_
    refine lv_iconst (v := 0) hx hb dX6_digit_32 (by decide) ?_
    refine lv_iload_n hx hb dX6_digit_33 rfl (lv_at hl 0 rfl) ?_
    refine zc_i (zc_runS (As := [.int b2, .int 0, .int b1]) (rest := []) ⟨hx, hb, hml, hown, hts⟩ (c_X6_in l D cc A ad rs b2 0 b1 μ7 _ h) (va_cwS 3 hts gX6_digit_X6_in rfl rfl rfl (by decide +kernel) ⟨Nat.le_of_ble_eq_true rfl, Nat.le_of_ble_eq_true rfl⟩) hK hN hP hD rfl hl.1 rfl (Nat.le_of_ble_eq_true rfl) dX6_digit_34 ⟨Nat.zero_le _, Nat.zero_le _⟩) hS (fun r8 μ9 H locs h hP hD hS => ?_)
    refine lv_if_eq (tgt := 44) hx hb dX6_digit_37 (by decide) (fun c10 => ?_) (fun c10 => ?_)
    · have h := h.1 c10
      refine lv_iconst (v := (-1)) hx hb dX6_digit_44 (by decide) ?_
      exact W.iret (v := (-1)) hx hb hr (fun t ht hW => ⟨⟨(-1), μ9, rfl, h, PW.to hK hN hP hD t ht hW⟩, hS.F ht⟩) hS.2.2 dX6_digit_45
    · have h := h.2 c10
      refine lv_iload_n hx hb dX6_digit_40 rfl (lv_at hl 1 rfl) ?_
      refine lv_goto (tgt := 45) hx hb dX6_digit_41 (by decide) ?_
      exact W.iret (v := b2) hx hb hr (fun t ht hW => ⟨⟨b2, μ9, rfl, h, PW.to hK hN hP hD t ht hW⟩, hS.F ht⟩) hS.2.2 dX6_digit_45
set_option maxHeartbeats 4000000 in
set_option maxRecDepth 100000 in
theorem c_X6_isChange (l : Launch) (D : va_G) (cc : Nat → ClassId) (A : Nat → Prop) (ad : Nat → Nat) (rs : va_W)  (μ : Mem) (K : Int32 → Mem → Prop) (h : f_X6_isChange  μ K) : Met l yX6_isChange wsX6_isChange ({ frames := 2, cells := 0, slots := 0, locals := 44 }) (va_Pc [.ref (ad 0)] (PW shM 18 D cc A ad rs μ)) (va_Qi K (PW shM 18 D cc A ad rs) A) 0 0 A := by
  refine Met.ofW (cc := cX6_isChange) (maxL := 6) (ret := (some .boolean)) (by decide) rfl ?_
  intro p e s m args below meth c s₁ BB hml hv
  obtain ⟨rfl, hP, hK, hD, hN⟩ := hv
  have hx := BB.exec
  have hb := BB.bytes
  have hr := BB.returns
  have hts := atoms_spec (ws := wsX6_isChange) BB.pre
  have hown : s.vm.findClass RX6 = some m.cls := findClass_of_methodNamed BB.named
  have hlocks := BB.notSynchronized
  have hi_X6 : ∀ w ∈ u_ws RX6 TX6 22, w ∈ wsX6_isChange := by decide +kernel
  have hw0 := hts (.fieldLink RX6 7 "FeatureClashesModel" "v" "[I") (by decide +kernel)
  have hw1 := hts (.fieldLink RX6 26 "FeatureClashesModel" "told" "[I") (by decide +kernel)
  have hw2 := hts (.fieldLink RX6 105 "FeatureClashesModel" "place" "I") (by decide +kernel)
  have hw3 := hts (.fieldLink RX6 118 "FeatureClashesModel" "tellings" "I") (by decide +kernel)
  have hS : va_S A s.heap s.heap [] := va_S.rf
  have hl := lv_entry ([.ref (ad 0)]) (n := 6) (Nat.le_of_ble_eq_true rfl)
  rw [lg_entry_eq]
  generalize (lg_sl ([.ref (ad 0)]) ++ List.replicate (6 - (lg_sl ([.ref (ad 0)])).length) Slot.unset).toArray = ls at hl ⊢
  have hl : lv_has ls 6 [(0, .ref (ad 0))] := hl
  unfold f_X6_isChange at h
  refine (fun h => ?main) (h (fun b1 b2 b3 μ => ∀ (H1 : Heap) (locs : List Loc) (ls : Array Slot), va_P D vwCl (wW shM 18 cc ad μ ++ rs) H1 → va_D A (wW shM 18 cc ad μ ++ rs) → va_S A s.heap H1 locs → lv_has ls 6 [(0, .ref (ad 0)), (1, .int b1), (2, .int b2), (3, .int b3)] → W p l e (headSpec wsX6_isChange ({ frames := 2, cells := 0, slots := 0, locals := 44 })).room s m ([.ref (ad 0)] : List Value).toArray below meth c H1 locs 0 0 (MQ below (va_Qi K (PW shM 18 D cc A ad rs) A) ([.ref (ad 0)] : List Value).toArray s 0 0 A) (F0 m 135 ls ([]))) ?b135)
  case main =>
      refine lv_aload_n hx hb dX6_isChange_0 rfl (lv_at hl 0 rfl) ?_
      refine lv_aload_n hx hb dX6_isChange_1 rfl (lv_at hl 0 rfl) ?_
      refine zw_get (C := RX6) (T := TX6) (M := 22) (v := .ref (ad 1)) hx hb hts hi_X6 hown hK hP kM_0 rfl 0 (by decide) hw0 rfl dX6_isChange_2 ?_
      refine lv_iconst (v := 0) hx hb dX6_isChange_5 (by decide) ?_
      obtain ⟨hi1, h⟩ := h
      refine zw_iald hx hb hK hP kM_1 hi1 dX6_isChange_6 ?_
      refine lv_iconst (v := 1) hx hb dX6_isChange_7 (by decide) ?_
      refine lv_isub hx hb dX6_isChange_8 ?_
      refine zc_i (zc_runV (As := [.int ((μ.1 1 (0 : Int32).toNatClampNeg) - 1)]) (rest := []) ⟨hx, hb, hml, hown, hts⟩ (c_X6_digit l D cc A ad rs ((μ.1 1 (0 : Int32).toNatClampNeg) - 1) μ _ h) (cwV 1 hts gX6_isChange_X6_digit rfl rfl rfl (by decide +kernel) ⟨Nat.le_of_ble_eq_true rfl, Nat.le_of_ble_eq_true rfl⟩) kM_0 rfl hK hN hP hD rfl hl.1 rfl (Nat.le_of_ble_eq_true rfl) dX6_isChange_9 ⟨Nat.zero_le _, Nat.zero_le _⟩) hS (fun r2 μ3 H locs h hP hD hS => ?_)
      refine lv_istore_n (lv' := [(1, .int r2), (0, .ref (ad 0))]) hx hb dX6_isChange_12 rfl hl (by decide) rfl (fun ls hl => ?_)
      refine lv_aload_n hx hb dX6_isChange_13 rfl (lv_at hl 1 rfl) ?_
      refine zc_i (zc_runV (As := []) (rest := []) ⟨hx, hb, hml, hown, hts⟩ (c_X6_here l D cc A ad rs  μ3 _ h) (cwV 0 hts gX6_isChange_X6_here rfl rfl rfl (by decide +kernel) ⟨Nat.le_of_ble_eq_true rfl, Nat.le_of_ble_eq_true rfl⟩) kM_0 rfl hK hN hP hD rfl hl.1 rfl (Nat.le_of_ble_eq_true rfl) dX6_isChange_14 ⟨Nat.zero_le _, Nat.zero_le _⟩) hS (fun r4 μ5 H locs h hP hD hS => ?_)
      refine lv_bipush (v := 97) hx hb dX6_isChange_17 (by decide) ?_
      refine lv_isub hx hb dX6_isChange_19 ?_
      refine lv_topi (fun y6 ey6 => ?_)
      have h := h y6 ey6
      refine lv_istore_n (lv' := [(2, .int y6), (1, .int r2), (0, .ref (ad 0))]) hx hb dX6_isChange_20 rfl hl (by decide) rfl (fun ls hl => ?_)
      refine lv_iload_n hx hb dX6_isChange_21 rfl (lv_at hl 1 rfl) ?_
      refine lv_if_lt (tgt := 46) hx hb dX6_isChange_22 (by decide) (fun c7 => ?_) (fun c7 => ?_)
      · have h := h.1 c7
        refine lv_iconst (v := 0) hx hb dX6_isChange_46 (by decide) ?_
        exact W.zret (ty := .boolean) (v := 0) hx hb hr rfl (fun t ht hW => ⟨⟨0, μ5, rfl, h, PW.to hK hN hP hD t ht hW⟩, hS.F ht⟩) hS.2.2 dX6_isChange_47
      · have h := h.2 c7
        refine lv_aload_n hx hb dX6_isChange_25 rfl (lv_at hl 2 rfl) ?_
        refine lv_iload_n hx hb dX6_isChange_26 rfl (lv_at hl 0 rfl) ?_
        refine zc_i (zc_runV (As := [.int y6]) (rest := []) ⟨hx, hb, hml, hown, hts⟩ (c_X6_isLetter l D cc A ad rs y6 μ5 _ h) (cwV 1 hts gX6_isChange_X6_isLetter rfl rfl rfl (by decide +kernel) ⟨Nat.le_of_ble_eq_true rfl, Nat.le_of_ble_eq_true rfl⟩) kM_0 rfl hK hN hP hD rfl hl.1 rfl (Nat.le_of_ble_eq_true rfl) dX6_isChange_27 ⟨Nat.zero_le _, Nat.zero_le _⟩) hS (fun r8 μ9 H locs h hP hD hS => ?_)
        refine lv_if_eq (tgt := 46) hx hb dX6_isChange_30 (by decide) (fun c10 => ?_) (fun c10 => ?_)
        · have h := h.1 c10
          refine lv_iconst (v := 0) hx hb dX6_isChange_46 (by decide) ?_
          exact W.zret (ty := .boolean) (v := 0) hx hb hr rfl (fun t ht hW => ⟨⟨0, μ9, rfl, h, PW.to hK hN hP hD t ht hW⟩, hS.F ht⟩) hS.2.2 dX6_isChange_47
        · have h := h.2 c10
          refine lv_aload_n hx hb dX6_isChange_33 rfl (lv_at hl 2 rfl) ?_
          refine zw_get (C := RX6) (T := TX6) (M := 22) (v := .ref (ad 6)) hx hb hts hi_X6 hown hK hP kM_0 rfl 8 (by decide) hw1 rfl dX6_isChange_34 ?_
          refine lv_iconst (v := 4) hx hb dX6_isChange_37 (by decide) ?_
          refine lv_iload_n hx hb dX6_isChange_38 rfl (lv_at hl 1 rfl) ?_
          refine lv_imul hx hb dX6_isChange_39 ?_
          refine lv_iload_n hx hb dX6_isChange_40 rfl (lv_at hl 0 rfl) ?_
          refine lv_iadd hx hb dX6_isChange_41 ?_
          obtain ⟨hi11, h⟩ := h
          refine zw_iald hx hb hK hP kM_6 hi11 dX6_isChange_42 ?_
          refine lv_if_lt (tgt := 48) hx hb dX6_isChange_43 (by decide) (fun c12 => ?_) (fun c12 => ?_)
          · have h := h.1 c12
            refine lv_aload_n hx hb dX6_isChange_48 rfl (lv_at hl 2 rfl) ?_
            refine lv_dup hx hb dX6_isChange_49 rfl ?_
            refine zw_get (C := RX6) (T := TX6) (M := 22) (v := .int (μ9.1 0 7)) hx hb hts hi_X6 hown hK hP kM_0 rfl 7 (by decide) hw2 rfl dX6_isChange_50 ?_
            refine lv_iconst (v := 1) hx hb dX6_isChange_53 (by decide) ?_
            refine lv_iadd hx hb dX6_isChange_54 ?_
            refine zw_put (C := RX6) (T := TX6) (M := 22) hx hb hts hi_X6 tyX6 tyX6_ok nmX6 hown hK hP hD hS kM_0 rfl 7 (by decide) hw2 rfl rfl (Nat.le_of_ble_eq_true rfl) rfl dX6_isChange_55 (fun μ13 H locs eμ13 hP hD hS => ?_)
            have h := h μ13 eμ13
            refine lv_bipush (v := 100) hx hb dX6_isChange_58 (by decide) ?_
            refine lv_istore_n (lv' := [(3, .int 100), (2, .int y6), (1, .int r2), (0, .ref (ad 0))]) hx hb dX6_isChange_60 rfl hl (by decide) rfl (fun ls hl => ?_)
            refine lv_aload_n hx hb dX6_isChange_61 rfl (lv_at hl 3 rfl) ?_
            refine lv_bipush (v := 45) hx hb dX6_isChange_62 (by decide) ?_
            refine zc_i (zc_runV (As := [.int 45]) (rest := []) ⟨hx, hb, hml, hown, hts⟩ (c_X6_takes l D cc A ad rs 45 μ13 _ h) (cwV 1 hts gX6_isChange_X6_takes rfl rfl rfl (by decide +kernel) ⟨Nat.le_of_ble_eq_true rfl, Nat.le_of_ble_eq_true rfl⟩) kM_0 rfl hK hN hP hD rfl hl.1 rfl (Nat.le_of_ble_eq_true rfl) dX6_isChange_64 ⟨Nat.zero_le _, Nat.zero_le _⟩) hS (fun r14 μ15 H locs h hP hD hS => ?_)
            refine lv_if_ne (tgt := 135) hx hb dX6_isChange_67 (by decide) (fun c16 => ?_) (fun c16 => ?_)
            · have h := h.1 c16
              exact h _ _ _ hP hD hS (lv_sub hl [3, 2, 1, 0] rfl)
            · have h := h.2 c16
              refine lv_aload_n hx hb dX6_isChange_70 rfl (lv_at hl 3 rfl) ?_
              refine lv_bipush (v := 62) hx hb dX6_isChange_71 (by decide) ?_
              refine zc_i (zc_runV (As := [.int 62]) (rest := []) ⟨hx, hb, hml, hown, hts⟩ (c_X6_takes l D cc A ad rs 62 μ15 _ h) (cwV 1 hts gX6_isChange_X6_takes rfl rfl rfl (by decide +kernel) ⟨Nat.le_of_ble_eq_true rfl, Nat.le_of_ble_eq_true rfl⟩) kM_0 rfl hK hN hP hD rfl hl.1 rfl (Nat.le_of_ble_eq_true rfl) dX6_isChange_73 ⟨Nat.zero_le _, Nat.zero_le _⟩) hS (fun r17 μ18 H locs h hP hD hS => ?_)
              refine lv_if_ne (tgt := 81) hx hb dX6_isChange_76 (by decide) (fun c19 => ?_) (fun c19 => ?_)
              · have h := h.1 c19
                refine lv_aload_n hx hb dX6_isChange_81 rfl (lv_at hl 3 rfl) ?_
                refine lv_aload_n hx hb dX6_isChange_82 rfl (lv_at hl 3 rfl) ?_
                refine zw_get (C := RX6) (T := TX6) (M := 22) (v := .ref (ad 1)) hx hb hts hi_X6 hown hK hP kM_0 rfl 0 (by decide) hw0 rfl dX6_isChange_83 ?_
                refine lv_iconst (v := 0) hx hb dX6_isChange_86 (by decide) ?_
                obtain ⟨hi20, h⟩ := h
                refine zw_iald hx hb hK hP kM_1 hi20 dX6_isChange_87 ?_
                refine lv_iconst (v := 1) hx hb dX6_isChange_88 (by decide) ?_
                refine lv_isub hx hb dX6_isChange_89 ?_
                refine zc_i (zc_runV (As := [.int ((μ18.1 1 (0 : Int32).toNatClampNeg) - 1)]) (rest := []) ⟨hx, hb, hml, hown, hts⟩ (c_X6_digit l D cc A ad rs ((μ18.1 1 (0 : Int32).toNatClampNeg) - 1) μ18 _ h) (cwV 1 hts gX6_isChange_X6_digit rfl rfl rfl (by decide +kernel) ⟨Nat.le_of_ble_eq_true rfl, Nat.le_of_ble_eq_true rfl⟩) kM_0 rfl hK hN hP hD rfl hl.1 rfl (Nat.le_of_ble_eq_true rfl) dX6_isChange_90 ⟨Nat.zero_le _, Nat.zero_le _⟩) hS (fun r21 μ22 H locs h hP hD hS => ?_)
                refine lv_istore (lv' := [(4, .int r21), (3, .int 100), (2, .int y6), (1, .int r2), (0, .ref (ad 0))]) hx hb dX6_isChange_93 hl (by decide) rfl (fun ls hl => ?_)
                refine lv_iload hx hb dX6_isChange_95 (lv_at hl 0 rfl) ?_
                refine lv_if_lt (tgt := 109) hx hb dX6_isChange_97 (by decide) (fun c23 => ?_) (fun c23 => ?_)
                · have h := h.1 c23
                  refine lv_iconst (v := 0) hx hb dX6_isChange_109 (by decide) ?_
                  exact W.zret (ty := .boolean) (v := 0) hx hb hr rfl (fun t ht hW => ⟨⟨0, μ22, rfl, h, PW.to hK hN hP hD t ht hW⟩, hS.F ht⟩) hS.2.2 dX6_isChange_110
                · have h := h.2 c23
                  refine lv_aload_n hx hb dX6_isChange_100 rfl (lv_at hl 4 rfl) ?_
                  refine lv_bipush (v := 47) hx hb dX6_isChange_101 (by decide) ?_
                  refine zc_i (zc_runV (As := [.int 47]) (rest := []) ⟨hx, hb, hml, hown, hts⟩ (c_X6_takes l D cc A ad rs 47 μ22 _ h) (cwV 1 hts gX6_isChange_X6_takes rfl rfl rfl (by decide +kernel) ⟨Nat.le_of_ble_eq_true rfl, Nat.le_of_ble_eq_true rfl⟩) kM_0 rfl hK hN hP hD rfl hl.1 rfl (Nat.le_of_ble_eq_true rfl) dX6_isChange_103 ⟨Nat.zero_le _, Nat.zero_le _⟩) hS (fun r24 μ25 H locs h hP hD hS => ?_)
                  refine lv_if_ne (tgt := 111) hx hb dX6_isChange_106 (by decide) (fun c26 => ?_) (fun c26 => ?_)
                  · have h := h.1 c26
                    refine lv_aload_n hx hb dX6_isChange_111 rfl (lv_at hl 4 rfl) ?_
                    refine lv_bipush (v := 9) hx hb dX6_isChange_112 (by decide) ?_
                    refine zc_i (zc_runV (As := [.int 9]) (rest := []) ⟨hx, hb, hml, hown, hts⟩ (c_X6_digit l D cc A ad rs 9 μ25 _ h) (cwV 1 hts gX6_isChange_X6_digit rfl rfl rfl (by decide +kernel) ⟨Nat.le_of_ble_eq_true rfl, Nat.le_of_ble_eq_true rfl⟩) kM_0 rfl hK hN hP hD rfl hl.1 rfl (Nat.le_of_ble_eq_true rfl) dX6_isChange_114 ⟨Nat.zero_le _, Nat.zero_le _⟩) hS (fun r27 μ28 H locs h hP hD hS => ?_)
                    refine lv_istore (lv' := [(5, .int r27), (4, .int r21), (3, .int 100), (2, .int y6), (1, .int r2), (0, .ref (ad 0))]) hx hb dX6_isChange_117 hl (by decide) rfl (fun ls hl => ?_)
                    refine lv_bipush (v := 10) hx hb dX6_isChange_119 (by decide) ?_
                    refine lv_iload hx hb dX6_isChange_121 (lv_at hl 1 rfl) ?_
                    refine lv_imul hx hb dX6_isChange_123 ?_
                    refine lv_iload hx hb dX6_isChange_124 (lv_at hl 0 rfl) ?_
                    refine lv_iadd hx hb dX6_isChange_126 ?_
                    refine lv_topi (fun y29 ey29 => ?_)
                    have h := h y29 ey29
                    refine lv_istore_n (lv' := [(3, .int y29), (5, .int r27), (4, .int r21), (2, .int y6), (1, .int r2), (0, .ref (ad 0))]) hx hb dX6_isChange_127 rfl hl (by decide) rfl (fun ls hl => ?_)
                    refine lv_iload hx hb dX6_isChange_128 (lv_at hl 1 rfl) ?_
                    refine lv_if_ge (tgt := 135) hx hb dX6_isChange_130 (by decide) (fun c30 => ?_) (fun c30 => ?_)
                    · have h := h.1 c30
                      exact h _ _ _ hP hD hS (lv_sub hl [5, 4, 3, 0] rfl)
                    · have h := h.2 c30
                      refine lv_iconst (v := 0) hx hb dX6_isChange_133 (by decide) ?_
                      exact W.zret (ty := .boolean) (v := 0) hx hb hr rfl (fun t ht hW => ⟨⟨0, μ28, rfl, h, PW.to hK hN hP hD t ht hW⟩, hS.F ht⟩) hS.2.2 dX6_isChange_134
                  · have h := h.2 c26
                    refine lv_iconst (v := 0) hx hb dX6_isChange_109 (by decide) ?_
                    exact W.zret (ty := .boolean) (v := 0) hx hb hr rfl (fun t ht hW => ⟨⟨0, μ25, rfl, h, PW.to hK hN hP hD t ht hW⟩, hS.F ht⟩) hS.2.2 dX6_isChange_110
              · have h := h.2 c19
                refine lv_iconst (v := 0) hx hb dX6_isChange_79 (by decide) ?_
                exact W.zret (ty := .boolean) (v := 0) hx hb hr rfl (fun t ht hW => ⟨⟨0, μ18, rfl, h, PW.to hK hN hP hD t ht hW⟩, hS.F ht⟩) hS.2.2 dX6_isChange_80
          · have h := h.2 c12
            refine lv_iconst (v := 0) hx hb dX6_isChange_46 (by decide) ?_
            exact W.zret (ty := .boolean) (v := 0) hx hb hr rfl (fun t ht hW => ⟨⟨0, μ9, rfl, h, PW.to hK hN hP hD t ht hW⟩, hS.F ht⟩) hS.2.2 dX6_isChange_47
  case b135 =>
    intro b1 b2 b3 μ h H locs ls hP hD hS hl
    refine lv_aload_n hx hb dX6_isChange_135 rfl (lv_at hl 0 rfl) ?_
    refine lv_bipush (v := 59) hx hb dX6_isChange_136 (by decide) ?_
    refine zc_i (zc_runV (As := [.int 59]) (rest := []) ⟨hx, hb, hml, hown, hts⟩ (c_X6_takes l D cc A ad rs 59 μ _ h) (cwV 1 hts gX6_isChange_X6_takes rfl rfl rfl (by decide +kernel) ⟨Nat.le_of_ble_eq_true rfl, Nat.le_of_ble_eq_true rfl⟩) kM_0 rfl hK hN hP hD rfl hl.1 rfl (Nat.le_of_ble_eq_true rfl) dX6_isChange_138 ⟨Nat.zero_le _, Nat.zero_le _⟩) hS (fun r31 μ32 H locs h hP hD hS => ?_)
    refine lv_if_ne (tgt := 146) hx hb dX6_isChange_141 (by decide) (fun c33 => ?_) (fun c33 => ?_)
    · have h := h.1 c33
      refine lv_aload_n hx hb dX6_isChange_146 rfl (lv_at hl 0 rfl) ?_
      refine zw_get (C := RX6) (T := TX6) (M := 22) (v := .ref (ad 6)) hx hb hts hi_X6 hown hK hP kM_0 rfl 8 (by decide) hw1 rfl dX6_isChange_147 ?_
      refine lv_iconst (v := 4) hx hb dX6_isChange_150 (by decide) ?_
      refine lv_iload_n hx hb dX6_isChange_151 rfl (lv_at hl 1 rfl) ?_
      refine lv_imul hx hb dX6_isChange_152 ?_
      refine lv_iload_n hx hb dX6_isChange_153 rfl (lv_at hl 2 rfl) ?_
      refine lv_iadd hx hb dX6_isChange_154 ?_
      refine lv_iload_n hx hb dX6_isChange_155 rfl (lv_at hl 3 rfl) ?_
      obtain ⟨hi34, h⟩ := h
      refine zw_iast hx hb hK hP hD hS kM_6 hi34 dX6_isChange_156 (fun μ35 H locs eμ35 hP hD hS => ?_)
      have h := h μ35 eμ35
      refine lv_aload_n hx hb dX6_isChange_157 rfl (lv_at hl 0 rfl) ?_
      refine lv_dup hx hb dX6_isChange_158 rfl ?_
      refine zw_get (C := RX6) (T := TX6) (M := 22) (v := .int (μ35.1 0 9)) hx hb hts hi_X6 hown hK hP kM_0 rfl 9 (by decide) hw3 rfl dX6_isChange_159 ?_
      refine lv_iconst (v := 1) hx hb dX6_isChange_162 (by decide) ?_
      refine lv_iadd hx hb dX6_isChange_163 ?_
      refine zw_put (C := RX6) (T := TX6) (M := 22) hx hb hts hi_X6 tyX6 tyX6_ok nmX6 hown hK hP hD hS kM_0 rfl 9 (by decide) hw3 rfl rfl (Nat.le_of_ble_eq_true rfl) rfl dX6_isChange_164 (fun μ36 H locs eμ36 hP hD hS => ?_)
      have h := h μ36 eμ36
      refine lv_iconst (v := 1) hx hb dX6_isChange_167 (by decide) ?_
      exact W.zret (ty := .boolean) (v := 1) hx hb hr rfl (fun t ht hW => ⟨⟨1, μ36, rfl, h, PW.to hK hN hP hD t ht hW⟩, hS.F ht⟩) hS.2.2 dX6_isChange_168
    · have h := h.2 c33
      refine lv_iconst (v := 0) hx hb dX6_isChange_144 (by decide) ?_
      exact W.zret (ty := .boolean) (v := 0) hx hb hr rfl (fun t ht hW => ⟨⟨0, μ32, rfl, h, PW.to hK hN hP hD t ht hW⟩, hS.F ht⟩) hS.2.2 dX6_isChange_145
set_option maxHeartbeats 4000000 in
set_option maxRecDepth 100000 in
theorem c_X6_isText (l : Launch) (D : va_G) (cc : Nat → ClassId) (A : Nat → Prop) (ad : Nat → Nat) (rs : va_W)  (μ : Mem) (K : Int32 → Mem → Prop) (h : f_X6_isText  μ K) : Met l yX6_isText wsX6_isText ({ frames := 3, cells := 0, slots := 0, locals := 69 }) (va_Pc [.ref (ad 0)] (PW shM 18 D cc A ad rs μ)) (va_Qi K (PW shM 18 D cc A ad rs) A) 0 0 A := by
  refine Met.ofW (cc := cX6_isText) (maxL := 2) (ret := (some .boolean)) (by decide) rfl ?_
  intro p e s m args below meth c s₁ BB hml hv
  obtain ⟨rfl, hP, hK, hD, hN⟩ := hv
  have hx := BB.exec
  have hb := BB.bytes
  have hr := BB.returns
  have hts := atoms_spec (ws := wsX6_isText) BB.pre
  have hown : s.vm.findClass RX6 = some m.cls := findClass_of_methodNamed BB.named
  have hlocks := BB.notSynchronized
  have hi_X6 : ∀ w ∈ u_ws RX6 TX6 22, w ∈ wsX6_isText := by decide +kernel
  have hw0 := hts (.fieldLink RX6 105 "FeatureClashesModel" "place" "I") (by decide +kernel)
  have hw1 := hts (.fieldLink RX6 118 "FeatureClashesModel" "tellings" "I") (by decide +kernel)
  have hw2 := hts (.fieldLink RX6 26 "FeatureClashesModel" "told" "[I") (by decide +kernel)
  have hw3 := hts (.fieldLink RX6 102 "FeatureClashesModel" "length" "I") (by decide +kernel)
  have hS : va_S A s.heap s.heap [] := va_S.rf
  have hl := lv_entry ([.ref (ad 0)]) (n := 2) (Nat.le_of_ble_eq_true rfl)
  rw [lg_entry_eq]
  generalize (lg_sl ([.ref (ad 0)]) ++ List.replicate (2 - (lg_sl ([.ref (ad 0)])).length) Slot.unset).toArray = ls at hl ⊢
  have hl : lv_has ls 2 [(0, .ref (ad 0))] := hl
  unfold f_X6_isText at h
  refine (fun h => ?main) (h (fun b1 μ => ∀ (H1 : Heap) (locs : List Loc) (ls : Array Slot), va_P D vwCl (wW shM 18 cc ad μ ++ rs) H1 → va_D A (wW shM 18 cc ad μ ++ rs) → va_S A s.heap H1 locs → lv_has ls 2 [(0, .ref (ad 0)), (1, .int b1)] → W p l e (headSpec wsX6_isText ({ frames := 3, cells := 0, slots := 0, locals := 69 })).room s m ([.ref (ad 0)] : List Value).toArray below meth c H1 locs 0 0 (MQ below (va_Qi K (PW shM 18 D cc A ad rs) A) ([.ref (ad 0)] : List Value).toArray s 0 0 A) (F0 m 12 ls ([]))) (fun b1 μ => ∀ (H1 : Heap) (locs : List Loc) (ls : Array Slot), va_P D vwCl (wW shM 18 cc ad μ ++ rs) H1 → va_D A (wW shM 18 cc ad μ ++ rs) → va_S A s.heap H1 locs → lv_has ls 2 [(0, .ref (ad 0)), (1, .int b1)] → W p l e (headSpec wsX6_isText ({ frames := 3, cells := 0, slots := 0, locals := 69 })).room s m ([.ref (ad 0)] : List Value).toArray below meth c H1 locs 0 0 (MQ below (va_Qi K (PW shM 18 D cc A ad rs) A) ([.ref (ad 0)] : List Value).toArray s 0 0 A) (F0 m 33 ls ([]))) ?b12 ?b33)
  case main =>
      refine lv_aload_n hx hb dX6_isText_0 rfl (lv_at hl 0 rfl) ?_
      refine lv_iconst (v := 0) hx hb dX6_isText_1 (by decide) ?_
      refine zw_put (C := RX6) (T := TX6) (M := 22) hx hb hts hi_X6 tyX6 tyX6_ok nmX6 hown hK hP hD hS kM_0 rfl 7 (by decide) hw0 rfl rfl (Nat.le_of_ble_eq_true rfl) rfl dX6_isText_2 (fun μ1 H locs eμ1 hP hD hS => ?_)
      have h := h μ1 eμ1
      refine lv_aload_n hx hb dX6_isText_5 rfl (lv_at hl 0 rfl) ?_
      refine lv_iconst (v := 0) hx hb dX6_isText_6 (by decide) ?_
      refine zw_put (C := RX6) (T := TX6) (M := 22) hx hb hts hi_X6 tyX6 tyX6_ok nmX6 hown hK hP hD hS kM_0 rfl 9 (by decide) hw1 rfl rfl (Nat.le_of_ble_eq_true rfl) rfl dX6_isText_7 (fun μ2 H locs eμ2 hP hD hS => ?_)
      have h := h μ2 eμ2
      refine lv_iconst (v := 0) hx hb dX6_isText_10 (by decide) ?_
      refine lv_istore_n (lv' := [(1, .int 0), (0, .ref (ad 0))]) hx hb dX6_isText_11 rfl hl (by decide) rfl (fun ls hl => ?_)
      exact h _ _ _ hP hD hS (lv_sub hl [1, 0] rfl)
  case b12 =>
    intro b1 μ h H locs ls hP hD hS hl
    refine lv_iload_n hx hb dX6_isText_12 rfl (lv_at hl 1 rfl) ?_
    refine lv_bipush (v := 32) hx hb dX6_isText_13 (by decide) ?_
    refine lv_icmp_ge (tgt := 31) hx hb dX6_isText_15 (by decide) (fun c3 => ?_) (fun c3 => ?_)
    · have h := h.1 c3
      refine lv_iconst (v := 1) hx hb dX6_isText_31 (by decide) ?_
      refine lv_istore_n (lv' := [(1, .int 1), (0, .ref (ad 0))]) hx hb dX6_isText_32 rfl hl (by decide) rfl (fun ls hl => ?_)
      exact h _ _ _ hP hD hS (lv_sub hl [1, 0] rfl)
    · have h := h.2 c3
      refine lv_aload_n hx hb dX6_isText_18 rfl (lv_at hl 0 rfl) ?_
      refine zw_get (C := RX6) (T := TX6) (M := 22) (v := .ref (ad 6)) hx hb hts hi_X6 hown hK hP kM_0 rfl 8 (by decide) hw2 rfl dX6_isText_19 ?_
      refine lv_iload_n hx hb dX6_isText_22 rfl (lv_at hl 1 rfl) ?_
      refine lv_iconst (v := (-1)) hx hb dX6_isText_23 (by decide) ?_
      obtain ⟨hi4, h⟩ := h
      refine zw_iast hx hb hK hP hD hS kM_6 hi4 dX6_isText_24 (fun μ5 H locs eμ5 hP hD hS => ?_)
      have h := h μ5 eμ5
      obtain ⟨y6, ey6⟩ : ∃ y : Int32, y = b1 + 1 := ⟨_, rfl⟩
      have h := h y6 ey6
      refine lv_iinc (v := y6) (lv' := [(1, .int y6), (0, .ref (ad 0))]) hx hb dX6_isText_25 hl (k := 1) rfl (by rw [ey6]; rfl) (by decide) rfl (fun ls hl => ?_)
      refine lv_goto (tgt := 12) hx hb dX6_isText_28 (by decide) ?_
      exact h _ _ _ hP hD hS (lv_sub hl [1, 0] rfl)
  case b33 =>
    intro b1 μ h H locs ls hP hD hS hl
    refine lv_iload_n hx hb dX6_isText_33 rfl (lv_at hl 1 rfl) ?_
    refine lv_if_eq (tgt := 56) hx hb dX6_isText_34 (by decide) (fun c7 => ?_) (fun c7 => ?_)
    · have h := h.1 c7
      refine lv_iload_n hx hb dX6_isText_56 rfl (lv_at hl 1 rfl) ?_
      obtain ⟨hz, h⟩ := h
      exact W.zret (ty := .boolean) (v := b1) hx hb hr hz (fun t ht hW => ⟨⟨b1, μ, rfl, h, PW.to hK hN hP hD t ht hW⟩, hS.F ht⟩) hS.2.2 dX6_isText_57
    · have h := h.2 c7
      refine lv_aload_n hx hb dX6_isText_37 rfl (lv_at hl 0 rfl) ?_
      refine zw_get (C := RX6) (T := TX6) (M := 22) (v := .int (μ.1 0 7)) hx hb hts hi_X6 hown hK hP kM_0 rfl 7 (by decide) hw0 rfl dX6_isText_38 ?_
      refine lv_aload_n hx hb dX6_isText_41 rfl (lv_at hl 0 rfl) ?_
      refine zw_get (C := RX6) (T := TX6) (M := 22) (v := .int (μ.1 0 6)) hx hb hts hi_X6 hown hK hP kM_0 rfl 6 (by decide) hw3 rfl dX6_isText_42 ?_
      refine lv_icmp_ge (tgt := 56) hx hb dX6_isText_45 (by decide) (fun c8 => ?_) (fun c8 => ?_)
      · have h := h.1 c8
        refine lv_iload_n hx hb dX6_isText_56 rfl (lv_at hl 1 rfl) ?_
        obtain ⟨hz, h⟩ := h
        exact W.zret (ty := .boolean) (v := b1) hx hb hr hz (fun t ht hW => ⟨⟨b1, μ, rfl, h, PW.to hK hN hP hD t ht hW⟩, hS.F ht⟩) hS.2.2 dX6_isText_57
      · have h := h.2 c8
        refine lv_aload_n hx hb dX6_isText_48 rfl (lv_at hl 0 rfl) ?_
        refine zc_i (zc_runV (As := []) (rest := []) ⟨hx, hb, hml, hown, hts⟩ (c_X6_isChange l D cc A ad rs  μ _ h) (cwV 0 hts gX6_isText_X6_isChange rfl rfl rfl (by decide +kernel) ⟨Nat.le_of_ble_eq_true rfl, Nat.le_of_ble_eq_true rfl⟩) kM_0 rfl hK hN hP hD rfl hl.1 rfl (Nat.le_of_ble_eq_true rfl) dX6_isText_49 ⟨Nat.zero_le _, Nat.zero_le _⟩) hS (fun r9 μ10 H locs h hP hD hS => ?_)
        refine lv_istore_n (lv' := [(1, .int r9), (0, .ref (ad 0))]) hx hb dX6_isText_52 rfl hl (by decide) rfl (fun ls hl => ?_)
        refine lv_goto (tgt := 33) hx hb dX6_isText_53 (by decide) ?_
        exact h _ _ _ hP hD hS (lv_sub hl [1, 0] rfl)
set_option maxHeartbeats 4000000 in
set_option maxRecDepth 100000 in
theorem c_X6_faultPosition (l : Launch) (D : va_G) (cc : Nat → ClassId) (A : Nat → Prop) (ad : Nat → Nat) (rs : va_W)  (μ : Mem) (K : Int32 → Mem → Prop) (h : f_X6_faultPosition  μ K) : Met l yX6_faultPosition wsX6_faultPosition ({ frames := 4, cells := 0, slots := 0, locals := 90 }) (va_Pc [.ref (ad 0)] (PW shM 18 D cc A ad rs μ)) (va_Qi K (PW shM 18 D cc A ad rs) A) 0 0 A := by
  refine Met.ofW (cc := cX6_faultPosition) (maxL := 1) (ret := (some .int)) (by decide) rfl ?_
  intro p e s m args below meth c s₁ BB hml hv
  obtain ⟨rfl, hP, hK, hD, hN⟩ := hv
  have hx := BB.exec
  have hb := BB.bytes
  have hr := BB.returns
  have hts := atoms_spec (ws := wsX6_faultPosition) BB.pre
  have hown : s.vm.findClass RX6 = some m.cls := findClass_of_methodNamed BB.named
  have hlocks := BB.notSynchronized
  have hi_X6 : ∀ w ∈ u_ws RX6 TX6 22, w ∈ wsX6_faultPosition := by decide +kernel
  have hw0 := hts (.fieldLink RX6 105 "FeatureClashesModel" "place" "I") (by decide +kernel)
  have hS : va_S A s.heap s.heap [] := va_S.rf
  have hl := lv_entry ([.ref (ad 0)]) (n := 1) (Nat.le_of_ble_eq_true rfl)
  rw [lg_entry_eq]
  generalize (lg_sl ([.ref (ad 0)]) ++ List.replicate (1 - (lg_sl ([.ref (ad 0)])).length) Slot.unset).toArray = ls at hl ⊢
  have hl : lv_has ls 1 [(0, .ref (ad 0))] := hl
  unfold f_X6_faultPosition at h
  refine lv_aload_n hx hb dX6_faultPosition_0 rfl (lv_at hl 0 rfl) ?_
  refine zc_i (zc_runV (As := []) (rest := []) ⟨hx, hb, hml, hown, hts⟩ (c_X6_isText l D cc A ad rs  μ _ h) (cwV 0 hts gX6_faultPosition_X6_isText rfl rfl rfl (by decide +kernel) ⟨Nat.le_of_ble_eq_true rfl, Nat.le_of_ble_eq_true rfl⟩) kM_0 rfl hK hN hP hD rfl hl.1 rfl (Nat.le_of_ble_eq_true rfl) dX6_faultPosition_1 ⟨Nat.zero_le _, Nat.zero_le _⟩) hS (fun r1 μ2 H locs h hP hD hS => ?_)
  refine lv_if_eq (tgt := 12) hx hb dX6_faultPosition_4 (by decide) (fun c3 => ?_) (fun c3 => ?_)
  · have h := h.1 c3
    refine lv_aload_n hx hb dX6_faultPosition_12 rfl (lv_at hl 0 rfl) ?_
    refine zw_get (C := RX6) (T := TX6) (M := 22) (v := .int (μ2.1 0 7)) hx hb hts hi_X6 hown hK hP kM_0 rfl 7 (by decide) hw0 rfl dX6_faultPosition_13 ?_
    exact W.iret (v := μ2.1 0 7) hx hb hr (fun t ht hW => ⟨⟨μ2.1 0 7, μ2, rfl, h, PW.to hK hN hP hD t ht hW⟩, hS.F ht⟩) hS.2.2 dX6_faultPosition_16
  · have h := h.2 c3
    refine lv_bipush (v := (-5)) hx hb dX6_faultPosition_7 (by decide) ?_
    refine lv_goto (tgt := 16) hx hb dX6_faultPosition_9 (by decide) ?_
    exact W.iret (v := (-5)) hx hb hr (fun t ht hW => ⟨⟨(-5), μ2, rfl, h, PW.to hK hN hP hD t ht hW⟩, hS.F ht⟩) hS.2.2 dX6_faultPosition_16
set_option maxHeartbeats 4000000 in
set_option maxRecDepth 100000 in
theorem c_X6_read (l : Launch) (D : va_G) (cc : Nat → ClassId) (A : Nat → Prop) (ad : Nat → Nat) (rs : va_W) (x1 : Int32) (μ : Mem) (K : Int32 → Mem → Prop) (h : f_X6_read x1 μ K) : Met l yX6_read wsX6_read ({ frames := 4, cells := 0, slots := 0, locals := 90 }) (va_Pc [.ref (ad 0), .int x1] (PW shM 18 D cc A ad rs μ)) (va_Qi K (PW shM 18 D cc A ad rs) A) 0 0 A := by
  refine Met.ofW (cc := cX6_read) (maxL := 3) (ret := (some .int)) (by decide) rfl ?_
  intro p e s m args below meth c s₁ BB hml hv
  obtain ⟨rfl, hP, hK, hD, hN⟩ := hv
  have hx := BB.exec
  have hb := BB.bytes
  have hr := BB.returns
  have hts := atoms_spec (ws := wsX6_read) BB.pre
  have hown : s.vm.findClass RX6 = some m.cls := findClass_of_methodNamed BB.named
  have hlocks := BB.notSynchronized
  have hi_X6 : ∀ w ∈ u_ws RX6 TX6 22, w ∈ wsX6_read := by decide +kernel
  have hw0 := hts (.fieldLink RX6 118 "FeatureClashesModel" "tellings" "I") (by decide +kernel)
  have hw1 := hts (.fieldLink RX6 26 "FeatureClashesModel" "told" "[I") (by decide +kernel)
  have hw2 := hts (.fieldLink RX6 7 "FeatureClashesModel" "v" "[I") (by decide +kernel)
  have hS : va_S A s.heap s.heap [] := va_S.rf
  have hl := lv_entry ([.ref (ad 0), .int x1]) (n := 3) (Nat.le_of_ble_eq_true rfl)
  rw [lg_entry_eq]
  generalize (lg_sl ([.ref (ad 0), .int x1]) ++ List.replicate (3 - (lg_sl ([.ref (ad 0), .int x1])).length) Slot.unset).toArray = ls at hl ⊢
  have hl : lv_has ls 3 [(0, .ref (ad 0)), (1, .int x1)] := hl
  unfold f_X6_read at h
  refine (fun h => ?main) (h (fun b1 μ => ∀ (H1 : Heap) (locs : List Loc) (ls : Array Slot), va_P D vwCl (wW shM 18 cc ad μ ++ rs) H1 → va_D A (wW shM 18 cc ad μ ++ rs) → va_S A s.heap H1 locs → lv_has ls 3 [(0, .ref (ad 0)), (1, .int b1)] → W p l e (headSpec wsX6_read ({ frames := 4, cells := 0, slots := 0, locals := 90 })).room s m ([.ref (ad 0), .int x1] : List Value).toArray below meth c H1 locs 0 0 (MQ below (va_Qi K (PW shM 18 D cc A ad rs) A) ([.ref (ad 0), .int x1] : List Value).toArray s 0 0 A) (F0 m 15 ls ([]))) (fun b1 b2 μ => ∀ (H1 : Heap) (locs : List Loc) (ls : Array Slot), va_P D vwCl (wW shM 18 cc ad μ ++ rs) H1 → va_D A (wW shM 18 cc ad μ ++ rs) → va_S A s.heap H1 locs → lv_has ls 3 [(0, .ref (ad 0)), (1, .int b1), (2, .int b2)] → W p l e (headSpec wsX6_read ({ frames := 4, cells := 0, slots := 0, locals := 90 })).room s m ([.ref (ad 0), .int x1] : List Value).toArray below meth c H1 locs 0 0 (MQ below (va_Qi K (PW shM 18 D cc A ad rs) A) ([.ref (ad 0), .int x1] : List Value).toArray s 0 0 A) (F0 m 27 ls ([]))) (fun b1 b2 μ => ∀ (H1 : Heap) (locs : List Loc) (ls : Array Slot), va_P D vwCl (wW shM 18 cc ad μ ++ rs) H1 → va_D A (wW shM 18 cc ad μ ++ rs) → va_S A s.heap H1 locs → lv_has ls 3 [(0, .ref (ad 0)), (1, .int b1), (2, .int b2)] → W p l e (headSpec wsX6_read ({ frames := 4, cells := 0, slots := 0, locals := 90 })).room s m ([.ref (ad 0), .int x1] : List Value).toArray below meth c H1 locs 0 0 (MQ below (va_Qi K (PW shM 18 D cc A ad rs) A) ([.ref (ad 0), .int x1] : List Value).toArray s 0 0 A) (F0 m 96 ls ([]))) (fun b1 b2 z0 z1 μ => ∀ (H1 : Heap) (locs : List Loc) (ls : Array Slot), va_P D vwCl (wW shM 18 cc ad μ ++ rs) H1 → va_D A (wW shM 18 cc ad μ ++ rs) → va_S A s.heap H1 locs → lv_has ls 3 [(0, .ref (ad 0)), (1, .int b1), (2, .int b2)] → W p l e (headSpec wsX6_read ({ frames := 4, cells := 0, slots := 0, locals := 90 })).room s m ([.ref (ad 0), .int x1] : List Value).toArray below meth c H1 locs 0 0 (MQ below (va_Qi K (PW shM 18 D cc A ad rs) A) ([.ref (ad 0), .int x1] : List Value).toArray s 0 0 A) (F0 m 95 ls ([.int z0, .int z1, .ref (ad 1)]))) ?b15 ?b27 ?b96 ?b95)
  case main =>
      refine lv_iload_n hx hb dX6_read_0 rfl (lv_at hl 1 rfl) ?_
      refine lv_iconst (v := (-1)) hx hb dX6_read_1 (by decide) ?_
      refine lv_icmp_eq (tgt := 15) hx hb dX6_read_2 (by decide) (fun c1 => ?_) (fun c1 => ?_)
      · have h := h.1 c1
        exact h _ _ _ hP hD hS (lv_sub hl [0, 1] rfl)
      · have h := h.2 c1
        refine lv_aload_n hx hb dX6_read_5 rfl (lv_at hl 0 rfl) ?_
        refine lv_iload_n hx hb dX6_read_6 rfl (lv_at hl 1 rfl) ?_
        refine zc_i (zc_runV (As := [.int x1]) (rest := []) ⟨hx, hb, hml, hown, hts⟩ (c_X6_isFeature l D cc A ad rs x1 μ _ h) (cwV 1 hts gX6_read_X6_isFeature rfl rfl rfl (by decide +kernel) ⟨Nat.le_of_ble_eq_true rfl, Nat.le_of_ble_eq_true rfl⟩) kM_0 rfl hK hN hP hD rfl hl.1 rfl (Nat.le_of_ble_eq_true rfl) dX6_read_7 ⟨Nat.zero_le _, Nat.zero_le _⟩) hS (fun r2 μ3 H locs h hP hD hS => ?_)
        refine lv_if_ne (tgt := 15) hx hb dX6_read_10 (by decide) (fun c4 => ?_) (fun c4 => ?_)
        · have h := h.1 c4
          exact h _ _ _ hP hD hS (lv_sub hl [0, 1] rfl)
        · have h := h.2 c4
          refine lv_iconst (v := (-1)) hx hb dX6_read_13 (by decide) ?_
          exact W.iret (v := (-1)) hx hb hr (fun t ht hW => ⟨⟨(-1), μ3, rfl, h, PW.to hK hN hP hD t ht hW⟩, hS.F ht⟩) hS.2.2 dX6_read_14
  case b15 =>
    intro b1 μ h H locs ls hP hD hS hl
    refine lv_aload_n hx hb dX6_read_15 rfl (lv_at hl 0 rfl) ?_
    refine zc_i (zc_runV (As := []) (rest := []) ⟨hx, hb, hml, hown, hts⟩ (c_X6_isText l D cc A ad rs  μ _ h) (cwV 0 hts gX6_read_X6_isText rfl rfl rfl (by decide +kernel) ⟨Nat.le_of_ble_eq_true rfl, Nat.le_of_ble_eq_true rfl⟩) kM_0 rfl hK hN hP hD rfl hl.1 rfl (Nat.le_of_ble_eq_true rfl) dX6_read_16 ⟨Nat.zero_le _, Nat.zero_le _⟩) hS (fun r5 μ6 H locs h hP hD hS => ?_)
    refine lv_if_ne (tgt := 25) hx hb dX6_read_19 (by decide) (fun c7 => ?_) (fun c7 => ?_)
    · have h := h.1 c7
      refine lv_iconst (v := 0) hx hb dX6_read_25 (by decide) ?_
      refine lv_istore_n (lv' := [(2, .int 0), (0, .ref (ad 0)), (1, .int b1)]) hx hb dX6_read_26 rfl hl (by decide) rfl (fun ls hl => ?_)
      exact h _ _ _ hP hD hS (lv_sub hl [1, 2, 0] rfl)
    · have h := h.2 c7
      refine lv_bipush (v := (-3)) hx hb dX6_read_22 (by decide) ?_
      exact W.iret (v := (-3)) hx hb hr (fun t ht hW => ⟨⟨(-3), μ6, rfl, h, PW.to hK hN hP hD t ht hW⟩, hS.F ht⟩) hS.2.2 dX6_read_24
  case b27 =>
    intro b1 b2 μ h H locs ls hP hD hS hl
    refine lv_iload_n hx hb dX6_read_27 rfl (lv_at hl 2 rfl) ?_
    refine lv_bipush (v := 32) hx hb dX6_read_28 (by decide) ?_
    refine lv_icmp_ge (tgt := 102) hx hb dX6_read_30 (by decide) (fun c8 => ?_) (fun c8 => ?_)
    · have h := h.1 c8
      refine lv_aload_n hx hb dX6_read_102 rfl (lv_at hl 0 rfl) ?_
      refine zw_get (C := RX6) (T := TX6) (M := 22) (v := .int (μ.1 0 9)) hx hb hts hi_X6 hown hK hP kM_0 rfl 9 (by decide) hw0 rfl dX6_read_103 ?_
      exact W.iret (v := μ.1 0 9) hx hb hr (fun t ht hW => ⟨⟨μ.1 0 9, μ, rfl, h, PW.to hK hN hP hD t ht hW⟩, hS.F ht⟩) hS.2.2 dX6_read_106
    · have h := h.2 c8
      refine lv_iload_n hx hb dX6_read_33 rfl (lv_at hl 1 rfl) ?_
      refine lv_if_lt (tgt := 58) hx hb dX6_read_34 (by decide) (fun c9 => ?_) (fun c9 => ?_)
      · have h := h.1 c9
        refine lv_aload_n hx hb dX6_read_58 rfl (lv_at hl 0 rfl) ?_
        refine zw_get (C := RX6) (T := TX6) (M := 22) (v := .ref (ad 6)) hx hb hts hi_X6 hown hK hP kM_0 rfl 8 (by decide) hw1 rfl dX6_read_59 ?_
        refine lv_iload_n hx hb dX6_read_62 rfl (lv_at hl 2 rfl) ?_
        obtain ⟨hi10, h⟩ := h
        refine zw_iald hx hb hK hP kM_6 hi10 dX6_read_63 ?_
        refine lv_if_lt (tgt := 96) hx hb dX6_read_64 (by decide) (fun c11 => ?_) (fun c11 => ?_)
        · have h := h.1 c11
          exact h _ _ _ hP hD hS (lv_sub hl [0, 1, 2] rfl)
        · have h := h.2 c11
          refine lv_aload_n hx hb dX6_read_67 rfl (lv_at hl 0 rfl) ?_
          refine zw_get (C := RX6) (T := TX6) (M := 22) (v := .ref (ad 1)) hx hb hts hi_X6 hown hK hP kM_0 rfl 0 (by decide) hw2 rfl dX6_read_68 ?_
          refine lv_iconst (v := 2) hx hb dX6_read_71 (by decide) ?_
          refine lv_iload_n hx hb dX6_read_72 rfl (lv_at hl 2 rfl) ?_
          refine lv_iadd hx hb dX6_read_73 ?_
          refine lv_aload_n hx hb dX6_read_74 rfl (lv_at hl 0 rfl) ?_
          refine zw_get (C := RX6) (T := TX6) (M := 22) (v := .ref (ad 6)) hx hb hts hi_X6 hown hK hP kM_0 rfl 8 (by decide) hw1 rfl dX6_read_75 ?_
          refine lv_iload_n hx hb dX6_read_78 rfl (lv_at hl 2 rfl) ?_
          obtain ⟨hi12, h⟩ := h
          refine zw_iald hx hb hK hP kM_6 hi12 dX6_read_79 ?_
          refine lv_bipush (v := 100) hx hb dX6_read_80 (by decide) ?_
          refine lv_icmp_ne (tgt := 89) hx hb dX6_read_82 (by decide) (fun c13 => ?_) (fun c13 => ?_)
          · have h := h.1 c13
            refine lv_aload_n hx hb dX6_read_89 rfl (lv_at hl 0 rfl) ?_
            refine zw_get (C := RX6) (T := TX6) (M := 22) (v := .ref (ad 6)) hx hb hts hi_X6 hown hK hP kM_0 rfl 8 (by decide) hw1 rfl dX6_read_90 ?_
            refine lv_iload_n hx hb dX6_read_93 rfl (lv_at hl 2 rfl) ?_
            obtain ⟨hi14, h⟩ := h
            refine zw_iald hx hb hK hP kM_6 hi14 dX6_read_94 ?_
            exact h _ _ _ hP hD hS (lv_sub hl [0, 1, 2] rfl)
          · have h := h.2 c13
            refine lv_iconst (v := (-1)) hx hb dX6_read_85 (by decide) ?_
            refine lv_goto (tgt := 95) hx hb dX6_read_86 (by decide) ?_
            exact h _ _ _ hP hD hS (lv_sub hl [0, 1, 2] rfl)
      · have h := h.2 c9
        refine lv_aload_n hx hb dX6_read_37 rfl (lv_at hl 0 rfl) ?_
        refine zw_get (C := RX6) (T := TX6) (M := 22) (v := .ref (ad 1)) hx hb hts hi_X6 hown hK hP kM_0 rfl 0 (by decide) hw2 rfl dX6_read_38 ?_
        refine lv_iload_n hx hb dX6_read_41 rfl (lv_at hl 1 rfl) ?_
        refine lv_iconst (v := 1) hx hb dX6_read_42 (by decide) ?_
        refine lv_iload_n hx hb dX6_read_43 rfl (lv_at hl 2 rfl) ?_
        refine lv_iadd hx hb dX6_read_44 ?_
        refine zc_i (zc_runS (As := [.int b1, .int (1 + b2)]) (rest := [.ref (ad 1)]) ⟨hx, hb, hml, hown, hts⟩ (c_X6_at l D cc A ad rs b1 (1 + b2) μ _ h) (va_cwS 2 hts gX6_read_X6_at rfl rfl rfl (by decide +kernel) ⟨Nat.le_of_ble_eq_true rfl, Nat.le_of_ble_eq_true rfl⟩) hK hN hP hD rfl hl.1 rfl (Nat.le_of_ble_eq_true rfl) dX6_read_45 ⟨Nat.zero_le _, Nat.zero_le _⟩) hS (fun r15 μ16 H locs h hP hD hS => ?_)
        refine lv_aload_n hx hb dX6_read_48 rfl (lv_at hl 0 rfl) ?_
        refine zw_get (C := RX6) (T := TX6) (M := 22) (v := .ref (ad 6)) hx hb hts hi_X6 hown hK hP kM_0 rfl 8 (by decide) hw1 rfl dX6_read_49 ?_
        refine lv_iload_n hx hb dX6_read_52 rfl (lv_at hl 2 rfl) ?_
        obtain ⟨hi17, h⟩ := h
        refine zw_iald hx hb hK hP kM_6 hi17 dX6_read_53 ?_
        obtain ⟨hi18, h⟩ := h
        refine zw_iast hx hb hK hP hD hS kM_1 hi18 dX6_read_54 (fun μ19 H locs eμ19 hP hD hS => ?_)
        have h := h μ19 eμ19
        refine lv_goto (tgt := 96) hx hb dX6_read_55 (by decide) ?_
        exact h _ _ _ hP hD hS (lv_sub hl [0, 1, 2] rfl)
  case b96 =>
    intro b1 b2 μ h H locs ls hP hD hS hl
    obtain ⟨y20, ey20⟩ : ∃ y : Int32, y = b2 + 1 := ⟨_, rfl⟩
    have h := h y20 ey20
    refine lv_iinc (v := y20) (lv' := [(2, .int y20), (0, .ref (ad 0)), (1, .int b1)]) hx hb dX6_read_96 hl (k := 2) rfl (by rw [ey20]; rfl) (by decide) rfl (fun ls hl => ?_)
    refine lv_goto (tgt := 27) hx hb dX6_read_99 (by decide) ?_
    exact h _ _ _ hP hD hS (lv_sub hl [1, 2, 0] rfl)
  case b95 =>
    intro b1 b2 z0 z1 μ h H locs ls hP hD hS hl
    obtain ⟨hi21, h⟩ := h
    refine zw_iast hx hb hK hP hD hS kM_1 hi21 dX6_read_95 (fun μ22 H locs eμ22 hP hD hS => ?_)
    have h := h μ22 eμ22
    exact h _ _ _ hP hD hS (lv_sub hl [0, 1, 2] rfl)
