set_option maxHeartbeats 4000000 in
set_option maxRecDepth 100000 in
theorem c_X5_answer (l : Launch) (D : va_G) (cc : Nat → ClassId) (A : Nat → Prop) (ad : Nat → Nat) (rs : va_W) (x1 : Int32) (x2 : Int32) (μ : Mem) (K : Int32 → Mem → Prop) (h : f_X5_answer x1 x2 μ K) : Met l yX5_answer wsX5_answer ({ frames := 5, cells := 0, slots := 0, locals := 126 }) (va_Pc [.ref (ad 0), .int x1, .int x2] (PW shX 67 D cc A ad rs μ)) (va_Qi K (PW shX 67 D cc A ad rs) A) 0 0 A := by
  refine Met.ofW (cc := cX5_answer) (maxL := 4) (ret := (some .int)) (by decide) rfl ?_
  intro p e s m args below meth c s₁ BB hml hv
  obtain ⟨rfl, hP, hK, hD, hN⟩ := hv
  have hx := BB.exec
  have hb := BB.bytes
  have hr := BB.returns
  have hts := atoms_spec (ws := wsX5_answer) BB.pre
  have hown : s.vm.findClass RX5 = some m.cls := findClass_of_methodNamed BB.named
  have hlocks := BB.notSynchronized
  have hi_X5 : ∀ w ∈ u_ws RX5 TX5 12, w ∈ wsX5_answer := by decide +kernel
  have hw0 := hts (.fieldLink RX5 12 "FeatureClashes" "setup" "LFeatureClashes$Setup;") (by decide +kernel)
  have hw1 := hts (.fieldLink RX5 35 "FeatureClashes" "wordLength" "I") (by decide +kernel)
  have hw2 := hts (.fieldLink RX5 39 "FeatureClashes" "firstMachine" "[I") (by decide +kernel)
  have hS : va_S A s.heap s.heap [] := va_S.rf
  have hl := lv_entry ([.ref (ad 0), .int x1, .int x2]) (n := 4) (Nat.le_of_ble_eq_true rfl)
  rw [lg_entry_eq]
  generalize (lg_sl ([.ref (ad 0), .int x1, .int x2]) ++ List.replicate (4 - (lg_sl ([.ref (ad 0), .int x1, .int x2])).length) Slot.unset).toArray = ls at hl ⊢
  have hl : lv_has ls 4 [(0, .ref (ad 0)), (1, .int x1), (2, .int x2)] := hl
  unfold f_X5_answer at h
  refine (fun h => ?main) (h (fun b1 b2 μ => ∀ (H1 : Heap) (locs : List Loc) (ls : Array Slot), va_P D vwCl (wW shX 67 cc ad μ ++ rs) H1 → va_D A (wW shX 67 cc ad μ ++ rs) → va_S A s.heap H1 locs → lv_has ls 4 [(0, .ref (ad 0)), (1, .int b1), (2, .int b2)] → W p l e (headSpec wsX5_answer ({ frames := 5, cells := 0, slots := 0, locals := 126 })).room s m ([.ref (ad 0), .int x1, .int x2] : List Value).toArray below meth c H1 locs 0 0 (MQ below (va_Qi K (PW shX 67 D cc A ad rs) A) ([.ref (ad 0), .int x1, .int x2] : List Value).toArray s 0 0 A) (F0 m 22 ls ([]))) (fun b1 b2 z0 μ => ∀ (H1 : Heap) (locs : List Loc) (ls : Array Slot), va_P D vwCl (wW shX 67 cc ad μ ++ rs) H1 → va_D A (wW shX 67 cc ad μ ++ rs) → va_S A s.heap H1 locs → lv_has ls 4 [(0, .ref (ad 0)), (1, .int b1), (2, .int b2)] → W p l e (headSpec wsX5_answer ({ frames := 5, cells := 0, slots := 0, locals := 126 })).room s m ([.ref (ad 0), .int x1, .int x2] : List Value).toArray below meth c H1 locs 0 0 (MQ below (va_Qi K (PW shX 67 D cc A ad rs) A) ([.ref (ad 0), .int x1, .int x2] : List Value).toArray s 0 0 A) (F0 m 27 ls ([.int z0]))) ?b22 ?b27)
  case main =>
      refine lv_iload_n hx hb dX5_answer_0 rfl (lv_at hl 1 rfl) ?_
      refine lv_iconst (v := (-1)) hx hb dX5_answer_1 (by decide) ?_
      refine lv_icmp_eq (tgt := 22) hx hb dX5_answer_2 (by decide) (fun c1 => ?_) (fun c1 => ?_)
      · have h := h.1 c1
        exact h _ _ _ hP hD hS (lv_sub hl [0, 1, 2] rfl)
      · have h := h.2 c1
        refine lv_iload_n hx hb dX5_answer_5 rfl (lv_at hl 1 rfl) ?_
        refine lv_bipush (v := (-2)) hx hb dX5_answer_6 (by decide) ?_
        refine lv_icmp_eq (tgt := 22) hx hb dX5_answer_8 (by decide) (fun c2 => ?_) (fun c2 => ?_)
        · have h := h.1 c2
          exact h _ _ _ hP hD hS (lv_sub hl [0, 1, 2] rfl)
        · have h := h.2 c2
          refine lv_aload_n hx hb dX5_answer_11 rfl (lv_at hl 0 rfl) ?_
          refine zw_get (C := RX5) (T := TX5) (M := 12) (v := .ref (ad 1)) hx hb hts hi_X5 hown hK hP kX_0 rfl 0 (by decide) hw0 rfl dX5_answer_12 ?_
          refine lv_iload_n hx hb dX5_answer_15 rfl (lv_at hl 1 rfl) ?_
          refine zc_i (zc_runV (As := [.int x1]) (rest := []) ⟨hx, hb, hml, hown, hts⟩ (c_X2_hasFeature l D cc A ad rs 1 sS1 x1 μ _ h) (cwV 1 hts gX5_answer_X2_hasFeature rfl rfl rfl (by decide +kernel) ⟨Nat.le_of_ble_eq_true rfl, Nat.le_of_ble_eq_true rfl⟩) (oS sS1) rfl hK hN hP hD rfl hl.1 rfl (Nat.le_of_ble_eq_true rfl) dX5_answer_16 ⟨Nat.zero_le _, Nat.zero_le _⟩) hS (fun r3 μ4 H locs h hP hD hS => ?_)
          refine lv_if_eq (tgt := 26) hx hb dX5_answer_19 (by decide) (fun c5 => ?_) (fun c5 => ?_)
          · have h := h.1 c5
            refine lv_iconst (v := 0) hx hb dX5_answer_26 (by decide) ?_
            exact h _ _ _ hP hD hS (lv_sub hl [0, 1, 2] rfl)
          · have h := h.2 c5
            exact h _ _ _ hP hD hS (lv_sub hl [0, 1, 2] rfl)
  case b22 =>
    intro b1 b2 μ h H locs ls hP hD hS hl
    refine lv_iconst (v := 1) hx hb dX5_answer_22 (by decide) ?_
    refine lv_goto (tgt := 27) hx hb dX5_answer_23 (by decide) ?_
    exact h _ _ _ hP hD hS (lv_sub hl [0, 1, 2] rfl)
  case b27 =>
    intro b1 b2 z0 μ h H locs ls hP hD hS hl
    refine lv_istore_n (lv' := [(3, .int z0), (0, .ref (ad 0)), (1, .int b1), (2, .int b2)]) hx hb dX5_answer_27 rfl hl (by decide) rfl (fun ls hl => ?_)
    refine lv_iload_n hx hb dX5_answer_28 rfl (lv_at hl 0 rfl) ?_
    refine lv_if_eq (tgt := 36) hx hb dX5_answer_29 (by decide) (fun c6 => ?_) (fun c6 => ?_)
    · have h := h.1 c6
      refine lv_iconst (v := (-1)) hx hb dX5_answer_36 (by decide) ?_
      exact W.iret (v := (-1)) hx hb hr (fun t ht hW => ⟨⟨(-1), μ, rfl, h, PW.to hK hN hP hD t ht hW⟩, hS.F ht⟩) hS.2.2 dX5_answer_37
    · have h := h.2 c6
      refine lv_iload_n hx hb dX5_answer_32 rfl (lv_at hl 3 rfl) ?_
      refine lv_if_ge (tgt := 38) hx hb dX5_answer_33 (by decide) (fun c7 => ?_) (fun c7 => ?_)
      · have h := h.1 c7
        refine lv_iload_n hx hb dX5_answer_38 rfl (lv_at hl 3 rfl) ?_
        refine lv_aload_n hx hb dX5_answer_39 rfl (lv_at hl 1 rfl) ?_
        refine zw_get (C := RX5) (T := TX5) (M := 12) (v := .int (μ.1 0 5)) hx hb hts hi_X5 hown hK hP kX_0 rfl 5 (by decide) hw1 rfl dX5_answer_40 ?_
        refine lv_icmp_lt (tgt := 49) hx hb dX5_answer_43 (by decide) (fun c8 => ?_) (fun c8 => ?_)
        · have h := h.1 c8
          refine lv_aload_n hx hb dX5_answer_49 rfl (lv_at hl 1 rfl) ?_
          refine lv_iload_n hx hb dX5_answer_50 rfl (lv_at hl 2 rfl) ?_
          refine lv_aload_n hx hb dX5_answer_51 rfl (lv_at hl 1 rfl) ?_
          refine zw_get (C := RX5) (T := TX5) (M := 12) (v := .ref (ad 37)) hx hb hts hi_X5 hown hK hP kX_0 rfl 6 (by decide) hw2 rfl dX5_answer_52 ?_
          refine zc_v (zc_runV (As := [.int b1, .ref (ad 37)]) (rest := []) ⟨hx, hb, hml, hown, hts⟩ (c_X5_buildMachine l D cc A ad rs b1 37 kX_37 μ _ h) (cwV 2 hts gX5_answer_X5_buildMachine rfl rfl rfl (by decide +kernel) ⟨Nat.le_of_ble_eq_true rfl, Nat.le_of_ble_eq_true rfl⟩) kX_0 rfl hK hN hP hD rfl hl.1 rfl (Nat.le_of_ble_eq_true rfl) dX5_answer_55 ⟨Nat.zero_le _, Nat.zero_le _⟩) hS (fun μ10 H locs h hP hD hS => ?_)
          refine lv_aload_n hx hb dX5_answer_58 rfl (lv_at hl 1 rfl) ?_
          refine lv_aload_n hx hb dX5_answer_59 rfl (lv_at hl 1 rfl) ?_
          refine zw_get (C := RX5) (T := TX5) (M := 12) (v := .ref (ad 37)) hx hb hts hi_X5 hown hK hP kX_0 rfl 6 (by decide) hw2 rfl dX5_answer_60 ?_
          refine lv_iload_n hx hb dX5_answer_63 rfl (lv_at hl 3 rfl) ?_
          refine zc_i (zc_runV (As := [.ref (ad 37), .int b2]) (rest := []) ⟨hx, hb, hml, hown, hts⟩ (c_X5_answerOf l D cc A ad rs 37 kX_37 b2 μ10 _ h) (cwV 2 hts gX5_answer_X5_answerOf rfl rfl rfl (by decide +kernel) ⟨Nat.le_of_ble_eq_true rfl, Nat.le_of_ble_eq_true rfl⟩) kX_0 rfl hK hN hP hD rfl hl.1 rfl (Nat.le_of_ble_eq_true rfl) dX5_answer_64 ⟨Nat.zero_le _, Nat.zero_le _⟩) hS (fun r11 μ12 H locs h hP hD hS => ?_)
          exact W.iret (v := r11) hx hb hr (fun t ht hW => ⟨⟨r11, μ12, rfl, h, PW.to hK hN hP hD t ht hW⟩, hS.F ht⟩) hS.2.2 dX5_answer_67
        · have h := h.2 c8
          refine lv_bipush (v := (-5)) hx hb dX5_answer_46 (by decide) ?_
          exact W.iret (v := (-5)) hx hb hr (fun t ht hW => ⟨⟨(-5), μ, rfl, h, PW.to hK hN hP hD t ht hW⟩, hS.F ht⟩) hS.2.2 dX5_answer_48
      · have h := h.2 c7
        refine lv_iconst (v := (-1)) hx hb dX5_answer_36 (by decide) ?_
        exact W.iret (v := (-1)) hx hb hr (fun t ht hW => ⟨⟨(-1), μ, rfl, h, PW.to hK hN hP hD t ht hW⟩, hS.F ht⟩) hS.2.2 dX5_answer_37
set_option maxHeartbeats 4000000 in
set_option maxRecDepth 100000 in
theorem c_X5_findEffect (l : Launch) (D : va_G) (cc : Nat → ClassId) (A : Nat → Prop) (ad : Nat → Nat) (rs : va_W)  (μ : Mem) (K : Mem → Prop) (h : f_X5_findEffect  μ K) : Met l yX5_findEffect wsX5_findEffect ({ frames := 4, cells := 0, slots := 0, locals := 104 }) (va_Pc [.ref (ad 0)] (PW shX 67 D cc A ad rs μ)) (va_Qv K (PW shX 67 D cc A ad rs) A) 0 0 A := by
  refine Met.ofW (cc := cX5_findEffect) (maxL := 1) (ret := none) (by decide) rfl ?_
  intro p e s m args below meth c s₁ BB hml hv
  obtain ⟨rfl, hP, hK, hD, hN⟩ := hv
  have hx := BB.exec
  have hb := BB.bytes
  have hr := BB.returns
  have hts := atoms_spec (ws := wsX5_findEffect) BB.pre
  have hown : s.vm.findClass RX5 = some m.cls := findClass_of_methodNamed BB.named
  have hlocks := BB.notSynchronized
  have hi_X5 : ∀ w ∈ u_ws RX5 TX5 12, w ∈ wsX5_findEffect := by decide +kernel
  have hi_X2 : ∀ w ∈ u_ws RX2 TX2 7, w ∈ wsX5_findEffect := by decide +kernel
  have hw0 := hts (.fieldLink RX5 39 "FeatureClashes" "firstMachine" "[I") (by decide +kernel)
  have hw1 := hts (.fieldLink RX5 54 "FeatureClashes" "difference" "LFeatureClashes$Difference;") (by decide +kernel)
  have hw2 := hts (.fieldLink RX5 12 "FeatureClashes" "setup" "LFeatureClashes$Setup;") (by decide +kernel)
  have hw3 := hts (.fieldLink RX5 96 "FeatureClashes$Setup" "base" "[I") (by decide +kernel)
  have hw4 := hts (.fieldLink RX5 68 "FeatureClashes$Setup" "letters" "I") (by decide +kernel)
  have hS : va_S A s.heap s.heap [] := va_S.rf
  have hl := lv_entry ([.ref (ad 0)]) (n := 1) (Nat.le_of_ble_eq_true rfl)
  rw [lg_entry_eq]
  generalize (lg_sl ([.ref (ad 0)]) ++ List.replicate (1 - (lg_sl ([.ref (ad 0)])).length) Slot.unset).toArray = ls at hl ⊢
  have hl : lv_has ls 1 [(0, .ref (ad 0))] := hl
  unfold f_X5_findEffect at h
  refine lv_aload_n hx hb dX5_findEffect_0 rfl (lv_at hl 0 rfl) ?_
  refine lv_aload_n hx hb dX5_findEffect_1 rfl (lv_at hl 0 rfl) ?_
  refine zw_get (C := RX5) (T := TX5) (M := 12) (v := .ref (ad 37)) hx hb hts hi_X5 hown hK hP kX_0 rfl 6 (by decide) hw0 rfl dX5_findEffect_2 ?_
  refine zc_v (zc_runV (As := [.ref (ad 37)]) (rest := []) ⟨hx, hb, hml, hown, hts⟩ (c_X5_buildResolvedMachine l D cc A ad rs 37 kX_37 μ _ h) (cwV 1 hts gX5_findEffect_X5_buildResolvedMachine rfl rfl rfl (by decide +kernel) ⟨Nat.le_of_ble_eq_true rfl, Nat.le_of_ble_eq_true rfl⟩) kX_0 rfl hK hN hP hD rfl hl.1 rfl (Nat.le_of_ble_eq_true rfl) dX5_findEffect_5 ⟨Nat.zero_le _, Nat.zero_le _⟩) hS (fun μ2 H locs h hP hD hS => ?_)
  refine lv_aload_n hx hb dX5_findEffect_8 rfl (lv_at hl 0 rfl) ?_
  refine zw_get (C := RX5) (T := TX5) (M := 12) (v := .ref (ad 41)) hx hb hts hi_X5 hown hK hP kX_0 rfl 10 (by decide) hw1 rfl dX5_findEffect_9 ?_
  refine lv_aload_n hx hb dX5_findEffect_12 rfl (lv_at hl 0 rfl) ?_
  refine zw_get (C := RX5) (T := TX5) (M := 12) (v := .ref (ad 37)) hx hb hts hi_X5 hown hK hP kX_0 rfl 6 (by decide) hw0 rfl dX5_findEffect_13 ?_
  refine lv_aload_n hx hb dX5_findEffect_16 rfl (lv_at hl 0 rfl) ?_
  refine zw_get (C := RX5) (T := TX5) (M := 12) (v := .ref (ad 1)) hx hb hts hi_X5 hown hK hP kX_0 rfl 0 (by decide) hw2 rfl dX5_findEffect_17 ?_
  refine zw_get (C := RX2) (T := TX2) (M := 7) (v := .ref (ad 2)) hx hb hts hi_X2 hown hK hP (oS sS1) rfl 4 (by decide) hw3 rfl dX5_findEffect_20 ?_
  refine lv_aload_n hx hb dX5_findEffect_23 rfl (lv_at hl 0 rfl) ?_
  refine zw_get (C := RX5) (T := TX5) (M := 12) (v := .ref (ad 1)) hx hb hts hi_X5 hown hK hP kX_0 rfl 0 (by decide) hw2 rfl dX5_findEffect_24 ?_
  refine zw_get (C := RX2) (T := TX2) (M := 7) (v := .int (μ2.1 1 1)) hx hb hts hi_X2 hown hK hP (oS sS1) rfl 1 (by decide) hw4 rfl dX5_findEffect_27 ?_
  refine zc_v (zc_runV (As := [.ref (ad 37), .ref (ad 2), .int (μ2.1 1 1)]) (rest := []) ⟨hx, hb, hml, hown, hts⟩ (c_X0_search l D cc A ad rs 37 kX_37 2 (iS1 sS1) (μ2.1 1 1) μ2 _ h) (cwV 3 hts gX5_findEffect_X0_search rfl rfl rfl (by decide +kernel) ⟨Nat.le_of_ble_eq_true rfl, Nat.le_of_ble_eq_true rfl⟩) kX_41 rfl hK hN hP hD rfl hl.1 rfl (Nat.le_of_ble_eq_true rfl) dX5_findEffect_30 ⟨Nat.zero_le _, Nat.zero_le _⟩) hS (fun μ4 H locs h hP hD hS => ?_)
  exact W.vret hx hb hr (fun t ht hW => ⟨⟨μ4, rfl, h, PW.to hK hN hP hD t ht hW⟩, hS.F ht⟩) hS.2.2 dX5_findEffect_33
set_option maxHeartbeats 4000000 in
set_option maxRecDepth 100000 in
theorem c_X5_effect (l : Launch) (D : va_G) (cc : Nat → ClassId) (A : Nat → Prop) (ad : Nat → Nat) (rs : va_W) (x1 : Int32) (μ : Mem) (K : Int32 → Mem → Prop) (h : f_X5_effect x1 μ K) : Met l yX5_effect wsX5_effect ({ frames := 5, cells := 0, slots := 0, locals := 124 }) (va_Pc [.ref (ad 0), .int x1] (PW shX 67 D cc A ad rs μ)) (va_Qi K (PW shX 67 D cc A ad rs) A) 0 0 A := by
  refine Met.ofW (cc := cX5_effect) (maxL := 2) (ret := (some .int)) (by decide) rfl ?_
  intro p e s m args below meth c s₁ BB hml hv
  obtain ⟨rfl, hP, hK, hD, hN⟩ := hv
  have hx := BB.exec
  have hb := BB.bytes
  have hr := BB.returns
  have hts := atoms_spec (ws := wsX5_effect) BB.pre
  have hown : s.vm.findClass RX5 = some m.cls := findClass_of_methodNamed BB.named
  have hlocks := BB.notSynchronized
  have hi_X5 : ∀ w ∈ u_ws RX5 TX5 12, w ∈ wsX5_effect := by decide +kernel
  have hw0 := hts (.fieldLink RX5 54 "FeatureClashes" "difference" "LFeatureClashes$Difference;") (by decide +kernel)
  have hS : va_S A s.heap s.heap [] := va_S.rf
  have hl := lv_entry ([.ref (ad 0), .int x1]) (n := 2) (Nat.le_of_ble_eq_true rfl)
  rw [lg_entry_eq]
  generalize (lg_sl ([.ref (ad 0), .int x1]) ++ List.replicate (2 - (lg_sl ([.ref (ad 0), .int x1])).length) Slot.unset).toArray = ls at hl ⊢
  have hl : lv_has ls 2 [(0, .ref (ad 0)), (1, .int x1)] := hl
  unfold f_X5_effect at h
  refine lv_iload_n hx hb dX5_effect_0 rfl (lv_at hl 1 rfl) ?_
  refine lv_if_ge (tgt := 6) hx hb dX5_effect_1 (by decide) (fun c1 => ?_) (fun c1 => ?_)
  · have h := h.1 c1
    refine lv_aload_n hx hb dX5_effect_6 rfl (lv_at hl 0 rfl) ?_
    refine zc_v (zc_runV (As := []) (rest := []) ⟨hx, hb, hml, hown, hts⟩ (c_X5_findEffect l D cc A ad rs  μ _ h) (cwV 0 hts gX5_effect_X5_findEffect rfl rfl rfl (by decide +kernel) ⟨Nat.le_of_ble_eq_true rfl, Nat.le_of_ble_eq_true rfl⟩) kX_0 rfl hK hN hP hD rfl hl.1 rfl (Nat.le_of_ble_eq_true rfl) dX5_effect_7 ⟨Nat.zero_le _, Nat.zero_le _⟩) hS (fun μ3 H locs h hP hD hS => ?_)
    refine lv_aload_n hx hb dX5_effect_10 rfl (lv_at hl 0 rfl) ?_
    refine zw_get (C := RX5) (T := TX5) (M := 12) (v := .ref (ad 41)) hx hb hts hi_X5 hown hK hP kX_0 rfl 10 (by decide) hw0 rfl dX5_effect_11 ?_
    refine lv_iload_n hx hb dX5_effect_14 rfl (lv_at hl 1 rfl) ?_
    refine zc_i (zc_runV (As := [.int x1]) (rest := []) ⟨hx, hb, hml, hown, hts⟩ (c_X0_letterAt l D cc A ad rs x1 μ3 _ h) (cwV 1 hts gX5_effect_X0_letterAt rfl rfl rfl (by decide +kernel) ⟨Nat.le_of_ble_eq_true rfl, Nat.le_of_ble_eq_true rfl⟩) kX_41 rfl hK hN hP hD rfl hl.1 rfl (Nat.le_of_ble_eq_true rfl) dX5_effect_15 ⟨Nat.zero_le _, Nat.zero_le _⟩) hS (fun r4 μ5 H locs h hP hD hS => ?_)
    exact W.iret (v := r4) hx hb hr (fun t ht hW => ⟨⟨r4, μ5, rfl, h, PW.to hK hN hP hD t ht hW⟩, hS.F ht⟩) hS.2.2 dX5_effect_18
  · have h := h.2 c1
    refine lv_iconst (v := (-1)) hx hb dX5_effect_4 (by decide) ?_
    exact W.iret (v := (-1)) hx hb hr (fun t ht hW => ⟨⟨(-1), μ, rfl, h, PW.to hK hN hP hD t ht hW⟩, hS.F ht⟩) hS.2.2 dX5_effect_5
set_option maxHeartbeats 4000000 in
set_option maxRecDepth 100000 in
theorem c_X5_isSlot (l : Launch) (D : va_G) (cc : Nat → ClassId) (A : Nat → Prop) (ad : Nat → Nat) (rs : va_W) (x0 : Int32) (μ : Mem) (K : Int32 → Mem → Prop) (h : f_X5_isSlot x0 μ K) : Met l yX5_isSlot wsX5_isSlot ({ frames := 0, cells := 0, slots := 0, locals := 0 }) (va_Pc [.int x0] (PW shX 67 D cc A ad rs μ)) (va_Qi K (PW shX 67 D cc A ad rs) A) 0 0 A := by
  refine Met.ofW (cc := cX5_isSlot) (maxL := 1) (ret := (some .boolean)) (by decide) rfl ?_
  intro p e s m args below meth c s₁ BB hml hv
  obtain ⟨rfl, hP, hK, hD, hN⟩ := hv
  have hx := BB.exec
  have hb := BB.bytes
  have hr := BB.returns
  have hts := atoms_spec (ws := wsX5_isSlot) BB.pre
  have hown : s.vm.findClass RX5 = some m.cls := findClass_of_methodNamed BB.named
  have hlocks := BB.notSynchronized
  have hS : va_S A s.heap s.heap [] := va_S.rf
  have hl := lv_entry ([.int x0]) (n := 1) (Nat.le_of_ble_eq_true rfl)
  rw [lg_entry_eq]
  generalize (lg_sl ([.int x0]) ++ List.replicate (1 - (lg_sl ([.int x0])).length) Slot.unset).toArray = ls at hl ⊢
  have hl : lv_has ls 1 [(0, .int x0)] := hl
  unfold f_X5_isSlot at h
  refine lv_iload_n hx hb dX5_isSlot_0 rfl (lv_at hl 0 rfl) ?_
  refine lv_if_lt (tgt := 13) hx hb dX5_isSlot_1 (by decide) (fun c1 => ?_) (fun c1 => ?_)
  · have h := h.1 c1
    refine lv_iconst (v := 0) hx hb dX5_isSlot_13 (by decide) ?_
    exact W.zret (ty := .boolean) (v := 0) hx hb hr rfl (fun t ht hW => ⟨⟨0, μ, rfl, h, PW.to hK hN hP hD t ht hW⟩, hS.F ht⟩) hS.2.2 dX5_isSlot_14
  · have h := h.2 c1
    refine lv_iload_n hx hb dX5_isSlot_4 rfl (lv_at hl 0 rfl) ?_
    refine lv_iconst (v := 2) hx hb dX5_isSlot_5 (by decide) ?_
    refine lv_icmp_ge (tgt := 13) hx hb dX5_isSlot_6 (by decide) (fun c2 => ?_) (fun c2 => ?_)
    · have h := h.1 c2
      refine lv_iconst (v := 0) hx hb dX5_isSlot_13 (by decide) ?_
      exact W.zret (ty := .boolean) (v := 0) hx hb hr rfl (fun t ht hW => ⟨⟨0, μ, rfl, h, PW.to hK hN hP hD t ht hW⟩, hS.F ht⟩) hS.2.2 dX5_isSlot_14
    · have h := h.2 c2
      refine lv_iconst (v := 1) hx hb dX5_isSlot_9 (by decide) ?_
      refine lv_goto (tgt := 14) hx hb dX5_isSlot_10 (by decide) ?_
      exact W.zret (ty := .boolean) (v := 1) hx hb hr rfl (fun t ht hW => ⟨⟨1, μ, rfl, h, PW.to hK hN hP hD t ht hW⟩, hS.F ht⟩) hS.2.2 dX5_isSlot_14
set_option maxHeartbeats 4000000 in
set_option maxRecDepth 100000 in
theorem c_X5_save (l : Launch) (D : va_G) (cc : Nat → ClassId) (A : Nat → Prop) (ad : Nat → Nat) (rs : va_W) (x1 : Int32) (μ : Mem) (K : Int32 → Mem → Prop) (h : f_X5_save x1 μ K) : Met l yX5_save wsX5_save ({ frames := 3, cells := 0, slots := 0, locals := 103 }) (va_Pc [.ref (ad 0), .int x1] (PW shX 67 D cc A ad rs μ)) (va_Qi K (PW shX 67 D cc A ad rs) A) 0 0 A := by
  refine Met.ofW (cc := cX5_save) (maxL := 2) (ret := (some .int)) (by decide) rfl ?_
  intro p e s m args below meth c s₁ BB hml hv
  obtain ⟨rfl, hP, hK, hD, hN⟩ := hv
  have hx := BB.exec
  have hb := BB.bytes
  have hr := BB.returns
  have hts := atoms_spec (ws := wsX5_save) BB.pre
  have hown : s.vm.findClass RX5 = some m.cls := findClass_of_methodNamed BB.named
  have hlocks := BB.notSynchronized
  have hi_X5 : ∀ w ∈ u_ws RX5 TX5 12, w ∈ wsX5_save := by decide +kernel
  have hi_X2 : ∀ w ∈ u_ws RX2 TX2 7, w ∈ wsX5_save := by decide +kernel
  have hw0 := hts (.fieldLink RX5 16 "FeatureClashes" "slots" "[LFeatureClashes$Setup;") (by decide +kernel)
  have hw1 := hts (.fieldLink RX5 12 "FeatureClashes" "setup" "LFeatureClashes$Setup;") (by decide +kernel)
  have hw2 := hts (.fieldLink RX5 20 "FeatureClashes" "saved" "[Z") (by decide +kernel)
  have hw3 := hts (.fieldLink RX5 99 "FeatureClashes$Setup" "featureCount" "I") (by decide +kernel)
  have hS : va_S A s.heap s.heap [] := va_S.rf
  have hl := lv_entry ([.ref (ad 0), .int x1]) (n := 2) (Nat.le_of_ble_eq_true rfl)
  rw [lg_entry_eq]
  generalize (lg_sl ([.ref (ad 0), .int x1]) ++ List.replicate (2 - (lg_sl ([.ref (ad 0), .int x1])).length) Slot.unset).toArray = ls at hl ⊢
  have hl : lv_has ls 2 [(0, .ref (ad 0)), (1, .int x1)] := hl
  unfold f_X5_save at h
  refine lv_iload_n hx hb dX5_save_0 rfl (lv_at hl 1 rfl) ?_
  refine zc_i (zc_runS (As := [.int x1]) (rest := []) ⟨hx, hb, hml, hown, hts⟩ (c_X5_isSlot l D cc A ad rs x1 μ _ h) (va_cwS 1 hts gX5_save_X5_isSlot rfl rfl rfl (by decide +kernel) ⟨Nat.le_of_ble_eq_true rfl, Nat.le_of_ble_eq_true rfl⟩) hK hN hP hD rfl hl.1 rfl (Nat.le_of_ble_eq_true rfl) dX5_save_1 ⟨Nat.zero_le _, Nat.zero_le _⟩) hS (fun r1 μ2 H locs h hP hD hS => ?_)
  refine lv_if_ne (tgt := 9) hx hb dX5_save_4 (by decide) (fun c3 => ?_) (fun c3 => ?_)
  · have h := h.1 c3
    refine lv_aload_n hx hb dX5_save_9 rfl (lv_at hl 0 rfl) ?_
    refine zw_get (C := RX5) (T := TX5) (M := 12) (v := .ref (ad 11)) hx hb hts hi_X5 hown hK hP kX_0 rfl 1 (by decide) hw0 rfl dX5_save_10 ?_
    refine lv_iload_n hx hb dX5_save_13 rfl (lv_at hl 1 rfl) ?_
    obtain ⟨hi4, h⟩ := h
    refine zw_aalS hx hb hK hP kX_11 hi4 dX5_save_14 ?_
    refine W.eq (g2 := F0 m 15 ls ([.ref (ad (12 + 10 * (x1 : Int32).toNatClampNeg))])) rfl ?_
    refine lv_aload_n hx hb dX5_save_15 rfl (lv_at hl 0 rfl) ?_
    refine zw_get (C := RX5) (T := TX5) (M := 12) (v := .ref (ad 1)) hx hb hts hi_X5 hown hK hP kX_0 rfl 0 (by decide) hw1 rfl dX5_save_16 ?_
    refine zc_v (zc_runV (As := [.ref (ad 1)]) (rest := []) ⟨hx, hb, hml, hown, hts⟩ (c_X2_copyFrom l D cc A ad rs (12 + 10 * (x1 : Int32).toNatClampNeg) (sSl (zw_lt hi4)) 1 sS1 μ2 _ h) (cwV 1 hts gX5_save_X2_copyFrom rfl rfl rfl (by decide +kernel) ⟨Nat.le_of_ble_eq_true rfl, Nat.le_of_ble_eq_true rfl⟩) (oS (sSl (zw_lt hi4))) rfl hK hN hP hD rfl hl.1 rfl (Nat.le_of_ble_eq_true rfl) dX5_save_19 ⟨Nat.zero_le _, Nat.zero_le _⟩) hS (fun μ6 H locs h hP hD hS => ?_)
    refine lv_aload_n hx hb dX5_save_22 rfl (lv_at hl 0 rfl) ?_
    refine zw_get (C := RX5) (T := TX5) (M := 12) (v := .ref (ad 32)) hx hb hts hi_X5 hown hK hP kX_0 rfl 2 (by decide) hw2 rfl dX5_save_23 ?_
    refine lv_iload_n hx hb dX5_save_26 rfl (lv_at hl 1 rfl) ?_
    refine lv_iconst (v := 1) hx hb dX5_save_27 (by decide) ?_
    obtain ⟨hi7, h⟩ := h
    refine zw_zast hx hb hK hP hD hS kX_32 hi7 dX5_save_28 (fun μ8 H locs eμ8 hP hD hS => ?_)
    have h := h μ8 eμ8
    refine lv_aload_n hx hb dX5_save_29 rfl (lv_at hl 0 rfl) ?_
    refine zw_get (C := RX5) (T := TX5) (M := 12) (v := .ref (ad 1)) hx hb hts hi_X5 hown hK hP kX_0 rfl 0 (by decide) hw1 rfl dX5_save_30 ?_
    refine zw_get (C := RX2) (T := TX2) (M := 7) (v := .int (μ8.1 1 2)) hx hb hts hi_X2 hown hK hP (oS sS1) rfl 2 (by decide) hw3 rfl dX5_save_33 ?_
    exact W.iret (v := μ8.1 1 2) hx hb hr (fun t ht hW => ⟨⟨μ8.1 1 2, μ8, rfl, h, PW.to hK hN hP hD t ht hW⟩, hS.F ht⟩) hS.2.2 dX5_save_36
  · have h := h.2 c3
    refine lv_iconst (v := (-1)) hx hb dX5_save_7 (by decide) ?_
    exact W.iret (v := (-1)) hx hb hr (fun t ht hW => ⟨⟨(-1), μ2, rfl, h, PW.to hK hN hP hD t ht hW⟩, hS.F ht⟩) hS.2.2 dX5_save_8
set_option maxHeartbeats 4000000 in
set_option maxRecDepth 100000 in
theorem c_X5_restore (l : Launch) (D : va_G) (cc : Nat → ClassId) (A : Nat → Prop) (ad : Nat → Nat) (rs : va_W) (x1 : Int32) (μ : Mem) (K : Int32 → Mem → Prop) (h : f_X5_restore x1 μ K) : Met l yX5_restore wsX5_restore ({ frames := 3, cells := 0, slots := 0, locals := 103 }) (va_Pc [.ref (ad 0), .int x1] (PW shX 67 D cc A ad rs μ)) (va_Qi K (PW shX 67 D cc A ad rs) A) 0 0 A := by
  refine Met.ofW (cc := cX5_restore) (maxL := 2) (ret := (some .int)) (by decide) rfl ?_
  intro p e s m args below meth c s₁ BB hml hv
  obtain ⟨rfl, hP, hK, hD, hN⟩ := hv
  have hx := BB.exec
  have hb := BB.bytes
  have hr := BB.returns
  have hts := atoms_spec (ws := wsX5_restore) BB.pre
  have hown : s.vm.findClass RX5 = some m.cls := findClass_of_methodNamed BB.named
  have hlocks := BB.notSynchronized
  have hi_X5 : ∀ w ∈ u_ws RX5 TX5 12, w ∈ wsX5_restore := by decide +kernel
  have hi_X2 : ∀ w ∈ u_ws RX2 TX2 7, w ∈ wsX5_restore := by decide +kernel
  have hw0 := hts (.fieldLink RX5 20 "FeatureClashes" "saved" "[Z") (by decide +kernel)
  have hw1 := hts (.fieldLink RX5 12 "FeatureClashes" "setup" "LFeatureClashes$Setup;") (by decide +kernel)
  have hw2 := hts (.fieldLink RX5 16 "FeatureClashes" "slots" "[LFeatureClashes$Setup;") (by decide +kernel)
  have hw3 := hts (.fieldLink RX5 35 "FeatureClashes" "wordLength" "I") (by decide +kernel)
  have hw4 := hts (.fieldLink RX5 99 "FeatureClashes$Setup" "featureCount" "I") (by decide +kernel)
  have hS : va_S A s.heap s.heap [] := va_S.rf
  have hl := lv_entry ([.ref (ad 0), .int x1]) (n := 2) (Nat.le_of_ble_eq_true rfl)
  rw [lg_entry_eq]
  generalize (lg_sl ([.ref (ad 0), .int x1]) ++ List.replicate (2 - (lg_sl ([.ref (ad 0), .int x1])).length) Slot.unset).toArray = ls at hl ⊢
  have hl : lv_has ls 2 [(0, .ref (ad 0)), (1, .int x1)] := hl
  unfold f_X5_restore at h
  refine lv_iload_n hx hb dX5_restore_0 rfl (lv_at hl 1 rfl) ?_
  refine zc_i (zc_runS (As := [.int x1]) (rest := []) ⟨hx, hb, hml, hown, hts⟩ (c_X5_isSlot l D cc A ad rs x1 μ _ h) (va_cwS 1 hts gX5_restore_X5_isSlot rfl rfl rfl (by decide +kernel) ⟨Nat.le_of_ble_eq_true rfl, Nat.le_of_ble_eq_true rfl⟩) hK hN hP hD rfl hl.1 rfl (Nat.le_of_ble_eq_true rfl) dX5_restore_1 ⟨Nat.zero_le _, Nat.zero_le _⟩) hS (fun r1 μ2 H locs h hP hD hS => ?_)
  refine lv_if_ne (tgt := 9) hx hb dX5_restore_4 (by decide) (fun c3 => ?_) (fun c3 => ?_)
  · have h := h.1 c3
    refine lv_aload_n hx hb dX5_restore_9 rfl (lv_at hl 0 rfl) ?_
    refine zw_get (C := RX5) (T := TX5) (M := 12) (v := .ref (ad 32)) hx hb hts hi_X5 hown hK hP kX_0 rfl 2 (by decide) hw0 rfl dX5_restore_10 ?_
    refine lv_iload_n hx hb dX5_restore_13 rfl (lv_at hl 1 rfl) ?_
    obtain ⟨hi4, h⟩ := h
    refine zw_zald hx hb hK hP kX_32 hi4 dX5_restore_14 ?_
    refine lv_if_ne (tgt := 21) hx hb dX5_restore_15 (by decide) (fun c5 => ?_) (fun c5 => ?_)
    · have h := h.1 c5
      refine lv_aload_n hx hb dX5_restore_21 rfl (lv_at hl 0 rfl) ?_
      refine zw_get (C := RX5) (T := TX5) (M := 12) (v := .ref (ad 1)) hx hb hts hi_X5 hown hK hP kX_0 rfl 0 (by decide) hw1 rfl dX5_restore_22 ?_
      refine lv_aload_n hx hb dX5_restore_25 rfl (lv_at hl 0 rfl) ?_
      refine zw_get (C := RX5) (T := TX5) (M := 12) (v := .ref (ad 11)) hx hb hts hi_X5 hown hK hP kX_0 rfl 1 (by decide) hw2 rfl dX5_restore_26 ?_
      refine lv_iload_n hx hb dX5_restore_29 rfl (lv_at hl 1 rfl) ?_
      obtain ⟨hi6, h⟩ := h
      refine zw_aalS hx hb hK hP kX_11 hi6 dX5_restore_30 ?_
      refine W.eq (g2 := F0 m 31 ls ([.ref (ad (12 + 10 * (x1 : Int32).toNatClampNeg)), .ref (ad 1)])) rfl ?_
      refine zc_v (zc_runV (As := [.ref (ad (12 + 10 * (x1 : Int32).toNatClampNeg))]) (rest := []) ⟨hx, hb, hml, hown, hts⟩ (c_X2_copyFrom l D cc A ad rs 1 sS1 (12 + 10 * (x1 : Int32).toNatClampNeg) (sSl (zw_lt hi6)) μ2 _ h) (cwV 1 hts gX5_restore_X2_copyFrom rfl rfl rfl (by decide +kernel) ⟨Nat.le_of_ble_eq_true rfl, Nat.le_of_ble_eq_true rfl⟩) (oS sS1) rfl hK hN hP hD rfl hl.1 rfl (Nat.le_of_ble_eq_true rfl) dX5_restore_31 ⟨Nat.zero_le _, Nat.zero_le _⟩) hS (fun μ8 H locs h hP hD hS => ?_)
      refine lv_aload_n hx hb dX5_restore_34 rfl (lv_at hl 0 rfl) ?_
      refine lv_iconst (v := 0) hx hb dX5_restore_35 (by decide) ?_
      refine zw_put (C := RX5) (T := TX5) (M := 12) hx hb hts hi_X5 tyX5 tyX5_ok nmX5 hown hK hP hD hS kX_0 rfl 5 (by decide) hw3 rfl rfl (Nat.le_of_ble_eq_true rfl) rfl dX5_restore_36 (fun μ9 H locs eμ9 hP hD hS => ?_)
      have h := h μ9 eμ9
      refine lv_aload_n hx hb dX5_restore_39 rfl (lv_at hl 0 rfl) ?_
      refine zw_get (C := RX5) (T := TX5) (M := 12) (v := .ref (ad 1)) hx hb hts hi_X5 hown hK hP kX_0 rfl 0 (by decide) hw1 rfl dX5_restore_40 ?_
      refine zw_get (C := RX2) (T := TX2) (M := 7) (v := .int (μ9.1 1 2)) hx hb hts hi_X2 hown hK hP (oS sS1) rfl 2 (by decide) hw4 rfl dX5_restore_43 ?_
      exact W.iret (v := μ9.1 1 2) hx hb hr (fun t ht hW => ⟨⟨μ9.1 1 2, μ9, rfl, h, PW.to hK hN hP hD t ht hW⟩, hS.F ht⟩) hS.2.2 dX5_restore_46
    · have h := h.2 c5
      refine lv_bipush (v := (-3)) hx hb dX5_restore_18 (by decide) ?_
      exact W.iret (v := (-3)) hx hb hr (fun t ht hW => ⟨⟨(-3), μ2, rfl, h, PW.to hK hN hP hD t ht hW⟩, hS.F ht⟩) hS.2.2 dX5_restore_20
  · have h := h.2 c3
    refine lv_iconst (v := (-1)) hx hb dX5_restore_7 (by decide) ?_
    exact W.iret (v := (-1)) hx hb hr (fun t ht hW => ⟨⟨(-1), μ2, rfl, h, PW.to hK hN hP hD t ht hW⟩, hS.F ht⟩) hS.2.2 dX5_restore_8
set_option maxHeartbeats 4000000 in
set_option maxRecDepth 100000 in
theorem c_X5_mix (l : Launch) (D : va_G) (cc : Nat → ClassId) (A : Nat → Prop) (ad : Nat → Nat) (rs : va_W) (x0 : Int64) (x2 : Int32) (μ : Mem) (K : Int64 → Mem → Prop) (h : f_X5_mix x0 x2 μ K) : Met l yX5_mix wsX5_mix ({ frames := 0, cells := 0, slots := 0, locals := 0 }) (va_Pc [.long x0, .int x2] (PW shX 67 D cc A ad rs μ)) (va_Ql K (PW shX 67 D cc A ad rs) A) 0 0 A := by
  refine Met.ofW (cc := cX5_mix) (maxL := 3) (ret := (some .long)) (by decide) rfl ?_
  intro p e s m args below meth c s₁ BB hml hv
  obtain ⟨rfl, hP, hK, hD, hN⟩ := hv
  have hx := BB.exec
  have hb := BB.bytes
  have hr := BB.returns
  have hts := atoms_spec (ws := wsX5_mix) BB.pre
  have hown : s.vm.findClass RX5 = some m.cls := findClass_of_methodNamed BB.named
  have hlocks := BB.notSynchronized
  have hw0 := hts (.constantLong RX5 275 (31)) (by decide +kernel)
  have hS : va_S A s.heap s.heap [] := va_S.rf
  have hl := lv_entry ([.long x0, .int x2]) (n := 3) (Nat.le_of_ble_eq_true rfl)
  rw [lg_entry_eq]
  generalize (lg_sl ([.long x0, .int x2]) ++ List.replicate (3 - (lg_sl ([.long x0, .int x2])).length) Slot.unset).toArray = ls at hl ⊢
  have hl : lv_has ls 3 [(0, .long x0), (2, .int x2)] := hl
  unfold f_X5_mix at h
  refine lv_ldc2 (v := 31) hx hb hown hw0 dX5_mix_0 ?_
  refine lv_lload_n hx hb dX5_mix_3 rfl (lv_at hl 0 rfl) ?_
  refine lv_lmul hx hb dX5_mix_4 ?_
  refine lv_iload_n hx hb dX5_mix_5 rfl (lv_at hl 1 rfl) ?_
  refine lv_i2l (v := (x2 : Int32).toInt64) hx hb dX5_mix_6 rfl ?_
  refine lv_ladd hx hb dX5_mix_7 ?_
  exact W.lret (v := (31 * x0) + ((x2 : Int32).toInt64)) hx hb hr (fun t ht hW => ⟨⟨(31 * x0) + ((x2 : Int32).toInt64), μ, rfl, h, PW.to hK hN hP hD t ht hW⟩, hS.F ht⟩) hS.2.2 dX5_mix_8
set_option maxHeartbeats 4000000 in
set_option maxRecDepth 100000 in
theorem c_X5_mixDifference (l : Launch) (D : va_G) (cc : Nat → ClassId) (A : Nat → Prop) (ad : Nat → Nat) (rs : va_W) (x1 : Int64) (μ : Mem) (K : Int64 → Mem → Prop) (h : f_X5_mixDifference x1 μ K) : Met l yX5_mixDifference wsX5_mixDifference ({ frames := 1, cells := 0, slots := 0, locals := 22 }) (va_Pc [.ref (ad 0), .long x1] (PW shX 67 D cc A ad rs μ)) (va_Ql K (PW shX 67 D cc A ad rs) A) 0 0 A := by
  refine Met.ofW (cc := cX5_mixDifference) (maxL := 6) (ret := (some .long)) (by decide) rfl ?_
  intro p e s m args below meth c s₁ BB hml hv
  obtain ⟨rfl, hP, hK, hD, hN⟩ := hv
  have hx := BB.exec
  have hb := BB.bytes
  have hr := BB.returns
  have hts := atoms_spec (ws := wsX5_mixDifference) BB.pre
  have hown : s.vm.findClass RX5 = some m.cls := findClass_of_methodNamed BB.named
  have hlocks := BB.notSynchronized
  have hi_X5 : ∀ w ∈ u_ws RX5 TX5 12, w ∈ wsX5_mixDifference := by decide +kernel
  have hi_X0 : ∀ w ∈ u_ws RX0 TX0 9, w ∈ wsX5_mixDifference := by decide +kernel
  have hw0 := hts (.fieldLink RX5 54 "FeatureClashes" "difference" "LFeatureClashes$Difference;") (by decide +kernel)
  have hw1 := hts (.fieldLink RX5 170 "FeatureClashes$Difference" "length" "I") (by decide +kernel)
  have hS : va_S A s.heap s.heap [] := va_S.rf
  have hl := lv_entry ([.ref (ad 0), .long x1]) (n := 6) (Nat.le_of_ble_eq_true rfl)
  rw [lg_entry_eq]
  generalize (lg_sl ([.ref (ad 0), .long x1]) ++ List.replicate (6 - (lg_sl ([.ref (ad 0), .long x1])).length) Slot.unset).toArray = ls at hl ⊢
  have hl : lv_has ls 6 [(0, .ref (ad 0)), (1, .long x1)] := hl
  unfold f_X5_mixDifference at h
  refine (fun h => ?main) (h (fun b3 b5 μ => ∀ (H1 : Heap) (locs : List Loc) (ls : Array Slot), va_P D vwCl (wW shX 67 cc ad μ ++ rs) H1 → va_D A (wW shX 67 cc ad μ ++ rs) → va_S A s.heap H1 locs → lv_has ls 6 [(0, .ref (ad 0)), (3, .long b3), (5, .int b5)] → W p l e (headSpec wsX5_mixDifference ({ frames := 1, cells := 0, slots := 0, locals := 22 })).room s m ([.ref (ad 0), .long x1] : List Value).toArray below meth c H1 locs 0 0 (MQ below (va_Ql K (PW shX 67 D cc A ad rs) A) ([.ref (ad 0), .long x1] : List Value).toArray s 0 0 A) (F0 m 5 ls ([]))) ?b5)
  case main =>
      refine lv_lload_n hx hb dX5_mixDifference_0 rfl (lv_at hl 1 rfl) ?_
      refine lv_lstore_n (lv' := [(3, .long x1), (0, .ref (ad 0)), (1, .long x1)]) hx hb dX5_mixDifference_1 rfl hl (by decide) rfl (fun ls hl => ?_)
      refine lv_iconst (v := 0) hx hb dX5_mixDifference_2 (by decide) ?_
      refine lv_istore (lv' := [(5, .int 0), (3, .long x1), (0, .ref (ad 0)), (1, .long x1)]) hx hb dX5_mixDifference_3 hl (by decide) rfl (fun ls hl => ?_)
      exact h _ _ _ hP hD hS (lv_sub hl [2, 1, 0] rfl)
  case b5 =>
    intro b3 b5 μ h H locs ls hP hD hS hl
    refine lv_iload hx hb dX5_mixDifference_5 (lv_at hl 2 rfl) ?_
    refine lv_aload_n hx hb dX5_mixDifference_7 rfl (lv_at hl 0 rfl) ?_
    refine zw_get (C := RX5) (T := TX5) (M := 12) (v := .ref (ad 41)) hx hb hts hi_X5 hown hK hP kX_0 rfl 10 (by decide) hw0 rfl dX5_mixDifference_8 ?_
    refine zw_get (C := RX0) (T := TX0) (M := 9) (v := .int (μ.1 41 0)) hx hb hts hi_X0 hown hK hP kX_41 rfl 0 (by decide) hw1 rfl dX5_mixDifference_11 ?_
    refine lv_icmp_ge (tgt := 37) hx hb dX5_mixDifference_14 (by decide) (fun c1 => ?_) (fun c1 => ?_)
    · have h := h.1 c1
      refine lv_lload_n hx hb dX5_mixDifference_37 rfl (lv_at hl 1 rfl) ?_
      exact W.lret (v := b3) hx hb hr (fun t ht hW => ⟨⟨b3, μ, rfl, h, PW.to hK hN hP hD t ht hW⟩, hS.F ht⟩) hS.2.2 dX5_mixDifference_38
    · have h := h.2 c1
      refine lv_lload_n hx hb dX5_mixDifference_17 rfl (lv_at hl 1 rfl) ?_
      refine lv_aload_n hx hb dX5_mixDifference_18 rfl (lv_at hl 0 rfl) ?_
      refine zw_get (C := RX5) (T := TX5) (M := 12) (v := .ref (ad 41)) hx hb hts hi_X5 hown hK hP kX_0 rfl 10 (by decide) hw0 rfl dX5_mixDifference_19 ?_
      refine lv_iload hx hb dX5_mixDifference_22 (lv_at hl 2 rfl) ?_
      refine zc_i (zc_runV (As := [.int b5]) (rest := [.long b3]) ⟨hx, hb, hml, hown, hts⟩ (c_X0_letterAt l D cc A ad rs b5 μ _ h) (cwV 1 hts gX5_mixDifference_X0_letterAt rfl rfl rfl (by decide +kernel) ⟨Nat.le_of_ble_eq_true rfl, Nat.le_of_ble_eq_true rfl⟩) kX_41 rfl hK hN hP hD rfl hl.1 rfl (Nat.le_of_ble_eq_true rfl) dX5_mixDifference_24 ⟨Nat.zero_le _, Nat.zero_le _⟩) hS (fun r2 μ3 H locs h hP hD hS => ?_)
      refine zc_l (zc_runS (As := [.long b3, .int r2]) (rest := []) ⟨hx, hb, hml, hown, hts⟩ (c_X5_mix l D cc A ad rs b3 r2 μ3 _ h) (va_cwS 2 hts gX5_mixDifference_X5_mix rfl rfl rfl (by decide +kernel) ⟨Nat.le_of_ble_eq_true rfl, Nat.le_of_ble_eq_true rfl⟩) hK hN hP hD rfl hl.1 rfl (Nat.le_of_ble_eq_true rfl) dX5_mixDifference_27 ⟨Nat.zero_le _, Nat.zero_le _⟩) hS (fun r4 μ5 H locs h hP hD hS => ?_)
      refine lv_lstore_n (lv' := [(3, .long r4), (0, .ref (ad 0)), (5, .int b5)]) hx hb dX5_mixDifference_30 rfl hl (by decide) rfl (fun ls hl => ?_)
      obtain ⟨y6, ey6⟩ : ∃ y : Int32, y = b5 + 1 := ⟨_, rfl⟩
      have h := h y6 ey6
      refine lv_iinc (v := y6) (lv' := [(5, .int y6), (3, .long r4), (0, .ref (ad 0))]) hx hb dX5_mixDifference_31 hl (k := 2) rfl (by rw [ey6]; rfl) (by decide) rfl (fun ls hl => ?_)
      refine lv_goto (tgt := 5) hx hb dX5_mixDifference_34 (by decide) ?_
      exact h _ _ _ hP hD hS (lv_sub hl [2, 1, 0] rfl)
set_option maxHeartbeats 4000000 in
set_option maxRecDepth 100000 in
theorem c_X5_mixResolvedOrder (l : Launch) (D : va_G) (cc : Nat → ClassId) (A : Nat → Prop) (ad : Nat → Nat) (rs : va_W) (x1 : Int64) (μ : Mem) (K : Int64 → Mem → Prop) (h : f_X5_mixResolvedOrder x1 μ K) : Met l yX5_mixResolvedOrder wsX5_mixResolvedOrder ({ frames := 3, cells := 0, slots := 0, locals := 67 }) (va_Pc [.ref (ad 0), .long x1] (PW shX 67 D cc A ad rs μ)) (va_Ql K (PW shX 67 D cc A ad rs) A) 0 0 A := by
  refine Met.ofW (cc := cX5_mixResolvedOrder) (maxL := 7) (ret := (some .long)) (by decide) rfl ?_
  intro p e s m args below meth c s₁ BB hml hv
  obtain ⟨rfl, hP, hK, hD, hN⟩ := hv
  have hx := BB.exec
  have hb := BB.bytes
  have hr := BB.returns
  have hts := atoms_spec (ws := wsX5_mixResolvedOrder) BB.pre
  have hown : s.vm.findClass RX5 = some m.cls := findClass_of_methodNamed BB.named
  have hlocks := BB.notSynchronized
  have hi_X5 : ∀ w ∈ u_ws RX5 TX5 12, w ∈ wsX5_mixResolvedOrder := by decide +kernel
  have hw0 := hts (.fieldLink RX5 45 "FeatureClashes" "resolvedOrder" "[I") (by decide +kernel)
  have hS : va_S A s.heap s.heap [] := va_S.rf
  have hl := lv_entry ([.ref (ad 0), .long x1]) (n := 7) (Nat.le_of_ble_eq_true rfl)
  rw [lg_entry_eq]
  generalize (lg_sl ([.ref (ad 0), .long x1]) ++ List.replicate (7 - (lg_sl ([.ref (ad 0), .long x1])).length) Slot.unset).toArray = ls at hl ⊢
  have hl : lv_has ls 7 [(0, .ref (ad 0)), (1, .long x1)] := hl
  unfold f_X5_mixResolvedOrder at h
  refine (fun h => ?main) (h (fun b3 b5 b6 μ => ∀ (H1 : Heap) (locs : List Loc) (ls : Array Slot), va_P D vwCl (wW shX 67 cc ad μ ++ rs) H1 → va_D A (wW shX 67 cc ad μ ++ rs) → va_S A s.heap H1 locs → lv_has ls 7 [(0, .ref (ad 0)), (3, .long b3), (5, .int b5), (6, .int b6)] → W p l e (headSpec wsX5_mixResolvedOrder ({ frames := 3, cells := 0, slots := 0, locals := 67 })).room s m ([.ref (ad 0), .long x1] : List Value).toArray below meth c H1 locs 0 0 (MQ below (va_Ql K (PW shX 67 D cc A ad rs) A) ([.ref (ad 0), .long x1] : List Value).toArray s 0 0 A) (F0 m 11 ls ([]))) ?b11)
  case main =>
      refine lv_lload_n hx hb dX5_mixResolvedOrder_0 rfl (lv_at hl 1 rfl) ?_
      refine lv_lstore_n (lv' := [(3, .long x1), (0, .ref (ad 0)), (1, .long x1)]) hx hb dX5_mixResolvedOrder_1 rfl hl (by decide) rfl (fun ls hl => ?_)
      refine lv_aload_n hx hb dX5_mixResolvedOrder_2 rfl (lv_at hl 1 rfl) ?_
      refine zc_i (zc_runV (As := []) (rest := []) ⟨hx, hb, hml, hown, hts⟩ (c_X5_findResolvedOrder l D cc A ad rs  μ _ h) (cwV 0 hts gX5_mixResolvedOrder_X5_findResolvedOrder rfl rfl rfl (by decide +kernel) ⟨Nat.le_of_ble_eq_true rfl, Nat.le_of_ble_eq_true rfl⟩) kX_0 rfl hK hN hP hD rfl hl.1 rfl (Nat.le_of_ble_eq_true rfl) dX5_mixResolvedOrder_3 ⟨Nat.zero_le _, Nat.zero_le _⟩) hS (fun r1 μ2 H locs h hP hD hS => ?_)
      refine lv_istore (lv' := [(5, .int r1), (3, .long x1), (0, .ref (ad 0)), (1, .long x1)]) hx hb dX5_mixResolvedOrder_6 hl (by decide) rfl (fun ls hl => ?_)
      refine lv_iconst (v := 0) hx hb dX5_mixResolvedOrder_8 (by decide) ?_
      refine lv_istore (lv' := [(6, .int 0), (5, .int r1), (3, .long x1), (0, .ref (ad 0)), (1, .long x1)]) hx hb dX5_mixResolvedOrder_9 hl (by decide) rfl (fun ls hl => ?_)
      exact h _ _ _ hP hD hS (lv_sub hl [3, 2, 1, 0] rfl)
  case b11 =>
    intro b3 b5 b6 μ h H locs ls hP hD hS hl
    refine lv_iload hx hb dX5_mixResolvedOrder_11 (lv_at hl 3 rfl) ?_
    refine lv_iload hx hb dX5_mixResolvedOrder_13 (lv_at hl 2 rfl) ?_
    refine lv_icmp_ge (tgt := 36) hx hb dX5_mixResolvedOrder_15 (by decide) (fun c3 => ?_) (fun c3 => ?_)
    · have h := h.1 c3
      refine lv_lload_n hx hb dX5_mixResolvedOrder_36 rfl (lv_at hl 1 rfl) ?_
      exact W.lret (v := b3) hx hb hr (fun t ht hW => ⟨⟨b3, μ, rfl, h, PW.to hK hN hP hD t ht hW⟩, hS.F ht⟩) hS.2.2 dX5_mixResolvedOrder_37
    · have h := h.2 c3
      refine lv_lload_n hx hb dX5_mixResolvedOrder_18 rfl (lv_at hl 1 rfl) ?_
      refine lv_aload_n hx hb dX5_mixResolvedOrder_19 rfl (lv_at hl 0 rfl) ?_
      refine zw_get (C := RX5) (T := TX5) (M := 12) (v := .ref (ad 39)) hx hb hts hi_X5 hown hK hP kX_0 rfl 8 (by decide) hw0 rfl dX5_mixResolvedOrder_20 ?_
      refine lv_iload hx hb dX5_mixResolvedOrder_23 (lv_at hl 3 rfl) ?_
      obtain ⟨hi4, h⟩ := h
      refine zw_iald hx hb hK hP kX_39 hi4 dX5_mixResolvedOrder_25 ?_
      refine zc_l (zc_runS (As := [.long b3, .int (μ.1 39 (b6 : Int32).toNatClampNeg)]) (rest := []) ⟨hx, hb, hml, hown, hts⟩ (c_X5_mix l D cc A ad rs b3 (μ.1 39 (b6 : Int32).toNatClampNeg) μ _ h) (va_cwS 2 hts gX5_mixResolvedOrder_X5_mix rfl rfl rfl (by decide +kernel) ⟨Nat.le_of_ble_eq_true rfl, Nat.le_of_ble_eq_true rfl⟩) hK hN hP hD rfl hl.1 rfl (Nat.le_of_ble_eq_true rfl) dX5_mixResolvedOrder_26 ⟨Nat.zero_le _, Nat.zero_le _⟩) hS (fun r5 μ6 H locs h hP hD hS => ?_)
      refine lv_lstore_n (lv' := [(3, .long r5), (0, .ref (ad 0)), (5, .int b5), (6, .int b6)]) hx hb dX5_mixResolvedOrder_29 rfl hl (by decide) rfl (fun ls hl => ?_)
      obtain ⟨y7, ey7⟩ : ∃ y : Int32, y = b6 + 1 := ⟨_, rfl⟩
      have h := h y7 ey7
      refine lv_iinc (v := y7) (lv' := [(6, .int y7), (3, .long r5), (0, .ref (ad 0)), (5, .int b5)]) hx hb dX5_mixResolvedOrder_30 hl (k := 3) rfl (by rw [ey7]; rfl) (by decide) rfl (fun ls hl => ?_)
      refine lv_goto (tgt := 11) hx hb dX5_mixResolvedOrder_33 (by decide) ?_
      exact h _ _ _ hP hD hS (lv_sub hl [2, 1, 3, 0] rfl)
set_option maxHeartbeats 4000000 in
set_option maxRecDepth 100000 in
theorem c_X5_mixAnswers (l : Launch) (D : va_G) (cc : Nat → ClassId) (A : Nat → Prop) (ad : Nat → Nat) (rs : va_W) (x1 : Int64) (μ : Mem) (K : Int64 → Mem → Prop) (h : f_X5_mixAnswers x1 μ K) : Met l yX5_mixAnswers wsX5_mixAnswers ({ frames := 4, cells := 0, slots := 0, locals := 104 }) (va_Pc [.ref (ad 0), .long x1] (PW shX 67 D cc A ad rs μ)) (va_Ql K (PW shX 67 D cc A ad rs) A) 0 0 A := by
  refine Met.ofW (cc := cX5_mixAnswers) (maxL := 6) (ret := (some .long)) (by decide) rfl ?_
  intro p e s m args below meth c s₁ BB hml hv
  obtain ⟨rfl, hP, hK, hD, hN⟩ := hv
  have hx := BB.exec
  have hb := BB.bytes
  have hr := BB.returns
  have hts := atoms_spec (ws := wsX5_mixAnswers) BB.pre
  have hown : s.vm.findClass RX5 = some m.cls := findClass_of_methodNamed BB.named
  have hlocks := BB.notSynchronized
  have hi_X5 : ∀ w ∈ u_ws RX5 TX5 12, w ∈ wsX5_mixAnswers := by decide +kernel
  have hw0 := hts (.fieldLink RX5 39 "FeatureClashes" "firstMachine" "[I") (by decide +kernel)
  have hw1 := hts (.fieldLink RX5 35 "FeatureClashes" "wordLength" "I") (by decide +kernel)
  have hS : va_S A s.heap s.heap [] := va_S.rf
  have hl := lv_entry ([.ref (ad 0), .long x1]) (n := 6) (Nat.le_of_ble_eq_true rfl)
  rw [lg_entry_eq]
  generalize (lg_sl ([.ref (ad 0), .long x1]) ++ List.replicate (6 - (lg_sl ([.ref (ad 0), .long x1])).length) Slot.unset).toArray = ls at hl ⊢
  have hl : lv_has ls 6 [(0, .ref (ad 0)), (1, .long x1)] := hl
  unfold f_X5_mixAnswers at h
  refine (fun h => ?main) (h (fun b3 b5 μ => ∀ (H1 : Heap) (locs : List Loc) (ls : Array Slot), va_P D vwCl (wW shX 67 cc ad μ ++ rs) H1 → va_D A (wW shX 67 cc ad μ ++ rs) → va_S A s.heap H1 locs → lv_has ls 6 [(0, .ref (ad 0)), (3, .long b3), (5, .int b5)] → W p l e (headSpec wsX5_mixAnswers ({ frames := 4, cells := 0, slots := 0, locals := 104 })).room s m ([.ref (ad 0), .long x1] : List Value).toArray below meth c H1 locs 0 0 (MQ below (va_Ql K (PW shX 67 D cc A ad rs) A) ([.ref (ad 0), .long x1] : List Value).toArray s 0 0 A) (F0 m 13 ls ([]))) ?b13)
  case main =>
      refine lv_lload_n hx hb dX5_mixAnswers_0 rfl (lv_at hl 1 rfl) ?_
      refine lv_lstore_n (lv' := [(3, .long x1), (0, .ref (ad 0)), (1, .long x1)]) hx hb dX5_mixAnswers_1 rfl hl (by decide) rfl (fun ls hl => ?_)
      refine lv_aload_n hx hb dX5_mixAnswers_2 rfl (lv_at hl 1 rfl) ?_
      refine lv_aload_n hx hb dX5_mixAnswers_3 rfl (lv_at hl 1 rfl) ?_
      refine zw_get (C := RX5) (T := TX5) (M := 12) (v := .ref (ad 37)) hx hb hts hi_X5 hown hK hP kX_0 rfl 6 (by decide) hw0 rfl dX5_mixAnswers_4 ?_
      refine zc_v (zc_runV (As := [.ref (ad 37)]) (rest := []) ⟨hx, hb, hml, hown, hts⟩ (c_X5_buildResolvedMachine l D cc A ad rs 37 kX_37 μ _ h) (cwV 1 hts gX5_mixAnswers_X5_buildResolvedMachine rfl rfl rfl (by decide +kernel) ⟨Nat.le_of_ble_eq_true rfl, Nat.le_of_ble_eq_true rfl⟩) kX_0 rfl hK hN hP hD rfl hl.1 rfl (Nat.le_of_ble_eq_true rfl) dX5_mixAnswers_7 ⟨Nat.zero_le _, Nat.zero_le _⟩) hS (fun μ2 H locs h hP hD hS => ?_)
      refine lv_iconst (v := 0) hx hb dX5_mixAnswers_10 (by decide) ?_
      refine lv_istore (lv' := [(5, .int 0), (3, .long x1), (0, .ref (ad 0)), (1, .long x1)]) hx hb dX5_mixAnswers_11 hl (by decide) rfl (fun ls hl => ?_)
      exact h _ _ _ hP hD hS (lv_sub hl [2, 1, 0] rfl)
  case b13 =>
    intro b3 b5 μ h H locs ls hP hD hS hl
    refine lv_iload hx hb dX5_mixAnswers_13 (lv_at hl 2 rfl) ?_
    refine lv_aload_n hx hb dX5_mixAnswers_15 rfl (lv_at hl 0 rfl) ?_
    refine zw_get (C := RX5) (T := TX5) (M := 12) (v := .int (μ.1 0 5)) hx hb hts hi_X5 hown hK hP kX_0 rfl 5 (by decide) hw1 rfl dX5_mixAnswers_16 ?_
    refine lv_icmp_ge (tgt := 43) hx hb dX5_mixAnswers_19 (by decide) (fun c3 => ?_) (fun c3 => ?_)
    · have h := h.1 c3
      refine lv_lload_n hx hb dX5_mixAnswers_43 rfl (lv_at hl 1 rfl) ?_
      exact W.lret (v := b3) hx hb hr (fun t ht hW => ⟨⟨b3, μ, rfl, h, PW.to hK hN hP hD t ht hW⟩, hS.F ht⟩) hS.2.2 dX5_mixAnswers_44
    · have h := h.2 c3
      refine lv_lload_n hx hb dX5_mixAnswers_22 rfl (lv_at hl 1 rfl) ?_
      refine lv_aload_n hx hb dX5_mixAnswers_23 rfl (lv_at hl 0 rfl) ?_
      refine lv_aload_n hx hb dX5_mixAnswers_24 rfl (lv_at hl 0 rfl) ?_
      refine zw_get (C := RX5) (T := TX5) (M := 12) (v := .ref (ad 37)) hx hb hts hi_X5 hown hK hP kX_0 rfl 6 (by decide) hw0 rfl dX5_mixAnswers_25 ?_
      refine lv_iload hx hb dX5_mixAnswers_28 (lv_at hl 2 rfl) ?_
      refine zc_i (zc_runV (As := [.ref (ad 37), .int b5]) (rest := [.long b3]) ⟨hx, hb, hml, hown, hts⟩ (c_X5_answerOf l D cc A ad rs 37 kX_37 b5 μ _ h) (cwV 2 hts gX5_mixAnswers_X5_answerOf rfl rfl rfl (by decide +kernel) ⟨Nat.le_of_ble_eq_true rfl, Nat.le_of_ble_eq_true rfl⟩) kX_0 rfl hK hN hP hD rfl hl.1 rfl (Nat.le_of_ble_eq_true rfl) dX5_mixAnswers_30 ⟨Nat.zero_le _, Nat.zero_le _⟩) hS (fun r4 μ5 H locs h hP hD hS => ?_)
      refine zc_l (zc_runS (As := [.long b3, .int r4]) (rest := []) ⟨hx, hb, hml, hown, hts⟩ (c_X5_mix l D cc A ad rs b3 r4 μ5 _ h) (va_cwS 2 hts gX5_mixAnswers_X5_mix rfl rfl rfl (by decide +kernel) ⟨Nat.le_of_ble_eq_true rfl, Nat.le_of_ble_eq_true rfl⟩) hK hN hP hD rfl hl.1 rfl (Nat.le_of_ble_eq_true rfl) dX5_mixAnswers_33 ⟨Nat.zero_le _, Nat.zero_le _⟩) hS (fun r6 μ7 H locs h hP hD hS => ?_)
      refine lv_lstore_n (lv' := [(3, .long r6), (0, .ref (ad 0)), (5, .int b5)]) hx hb dX5_mixAnswers_36 rfl hl (by decide) rfl (fun ls hl => ?_)
      obtain ⟨y8, ey8⟩ : ∃ y : Int32, y = b5 + 1 := ⟨_, rfl⟩
      have h := h y8 ey8
      refine lv_iinc (v := y8) (lv' := [(5, .int y8), (3, .long r6), (0, .ref (ad 0))]) hx hb dX5_mixAnswers_37 hl (k := 2) rfl (by rw [ey8]; rfl) (by decide) rfl (fun ls hl => ?_)
      refine lv_goto (tgt := 13) hx hb dX5_mixAnswers_40 (by decide) ?_
      exact h _ _ _ hP hD hS (lv_sub hl [2, 1, 0] rfl)
set_option maxHeartbeats 4000000 in
set_option maxRecDepth 100000 in
theorem c_X5_checksum (l : Launch) (D : va_G) (cc : Nat → ClassId) (A : Nat → Prop) (ad : Nat → Nat) (rs : va_W)  (μ : Mem) (K : Int64 → Mem → Prop) (h : f_X5_checksum  μ K) : Met l yX5_checksum wsX5_checksum ({ frames := 15, cells := 0, slots := 0, locals := 378 }) (va_Pc [.ref (ad 0)] (PW shX 67 D cc A ad rs μ)) (va_Ql K (PW shX 67 D cc A ad rs) A) 0 0 A := by
  refine Met.ofW (cc := cX5_checksum) (maxL := 5) (ret := (some .long)) (by decide) rfl ?_
  intro p e s m args below meth c s₁ BB hml hv
  obtain ⟨rfl, hP, hK, hD, hN⟩ := hv
  have hx := BB.exec
  have hb := BB.bytes
  have hr := BB.returns
  have hts := atoms_spec (ws := wsX5_checksum) BB.pre
  have hown : s.vm.findClass RX5 = some m.cls := findClass_of_methodNamed BB.named
  have hlocks := BB.notSynchronized
  have hi_X5 : ∀ w ∈ u_ws RX5 TX5 12, w ∈ wsX5_checksum := by decide +kernel
  have hi_X2 : ∀ w ∈ u_ws RX2 TX2 7, w ∈ wsX5_checksum := by decide +kernel
  have hw0 := hts (.constantLong RX5 235 (83)) (by decide +kernel)
  have hw1 := hts (.fieldLink RX5 12 "FeatureClashes" "setup" "LFeatureClashes$Setup;") (by decide +kernel)
  have hw2 := hts (.fieldLink RX5 99 "FeatureClashes$Setup" "featureCount" "I") (by decide +kernel)
  have hS : va_S A s.heap s.heap [] := va_S.rf
  have hl := lv_entry ([.ref (ad 0)]) (n := 5) (Nat.le_of_ble_eq_true rfl)
  rw [lg_entry_eq]
  generalize (lg_sl ([.ref (ad 0)]) ++ List.replicate (5 - (lg_sl ([.ref (ad 0)])).length) Slot.unset).toArray = ls at hl ⊢
  have hl : lv_has ls 5 [(0, .ref (ad 0))] := hl
  unfold f_X5_checksum at h
  refine (fun h => ?main) (h (fun b1 b3 μ => ∀ (H1 : Heap) (locs : List Loc) (ls : Array Slot), va_P D vwCl (wW shX 67 cc ad μ ++ rs) H1 → va_D A (wW shX 67 cc ad μ ++ rs) → va_S A s.heap H1 locs → lv_has ls 5 [(0, .ref (ad 0)), (1, .long b1), (3, .int b3)] → W p l e (headSpec wsX5_checksum ({ frames := 15, cells := 0, slots := 0, locals := 378 })).room s m ([.ref (ad 0)] : List Value).toArray below meth c H1 locs 0 0 (MQ below (va_Ql K (PW shX 67 D cc A ad rs) A) ([.ref (ad 0)] : List Value).toArray s 0 0 A) (F0 m 13 ls ([]))) (fun b1 b3 b4 μ => ∀ (H1 : Heap) (locs : List Loc) (ls : Array Slot), va_P D vwCl (wW shX 67 cc ad μ ++ rs) H1 → va_D A (wW shX 67 cc ad μ ++ rs) → va_S A s.heap H1 locs → lv_has ls 5 [(0, .ref (ad 0)), (1, .long b1), (3, .int b3), (4, .int b4)] → W p l e (headSpec wsX5_checksum ({ frames := 15, cells := 0, slots := 0, locals := 378 })).room s m ([.ref (ad 0)] : List Value).toArray below meth c H1 locs 0 0 (MQ below (va_Ql K (PW shX 67 D cc A ad rs) A) ([.ref (ad 0)] : List Value).toArray s 0 0 A) (F0 m 49 ls ([]))) ?b13 ?b49)
  case main =>
      refine lv_ldc2 (v := 83) hx hb hown hw0 dX5_checksum_0 ?_
      refine lv_aload_n hx hb dX5_checksum_3 rfl (lv_at hl 0 rfl) ?_
      refine zc_i (zc_runV (As := []) (rest := [.long 83]) ⟨hx, hb, hml, hown, hts⟩ (c_X5_features l D cc A ad rs  μ _ h) (cwV 0 hts gX5_checksum_X5_features rfl rfl rfl (by decide +kernel) ⟨Nat.le_of_ble_eq_true rfl, Nat.le_of_ble_eq_true rfl⟩) kX_0 rfl hK hN hP hD rfl hl.1 rfl (Nat.le_of_ble_eq_true rfl) dX5_checksum_4 ⟨Nat.zero_le _, Nat.zero_le _⟩) hS (fun r1 μ2 H locs h hP hD hS => ?_)
      refine zc_l (zc_runS (As := [.long 83, .int r1]) (rest := []) ⟨hx, hb, hml, hown, hts⟩ (c_X5_mix l D cc A ad rs 83 r1 μ2 _ h) (va_cwS 2 hts gX5_checksum_X5_mix rfl rfl rfl (by decide +kernel) ⟨Nat.le_of_ble_eq_true rfl, Nat.le_of_ble_eq_true rfl⟩) hK hN hP hD rfl hl.1 rfl (Nat.le_of_ble_eq_true rfl) dX5_checksum_7 ⟨Nat.zero_le _, Nat.zero_le _⟩) hS (fun r3 μ4 H locs h hP hD hS => ?_)
      refine lv_lstore_n (lv' := [(1, .long r3), (0, .ref (ad 0))]) hx hb dX5_checksum_10 rfl hl (by decide) rfl (fun ls hl => ?_)
      refine lv_iconst (v := 0) hx hb dX5_checksum_11 (by decide) ?_
      refine lv_istore_n (lv' := [(3, .int 0), (1, .long r3), (0, .ref (ad 0))]) hx hb dX5_checksum_12 rfl hl (by decide) rfl (fun ls hl => ?_)
      exact h _ _ _ hP hD hS (lv_sub hl [2, 1, 0] rfl)
  case b13 =>
    intro b1 b3 μ h H locs ls hP hD hS hl
    refine lv_iload_n hx hb dX5_checksum_13 rfl (lv_at hl 2 rfl) ?_
    refine lv_aload_n hx hb dX5_checksum_14 rfl (lv_at hl 0 rfl) ?_
    refine zw_get (C := RX5) (T := TX5) (M := 12) (v := .ref (ad 1)) hx hb hts hi_X5 hown hK hP kX_0 rfl 0 (by decide) hw1 rfl dX5_checksum_15 ?_
    refine zw_get (C := RX2) (T := TX2) (M := 7) (v := .int (μ.1 1 2)) hx hb hts hi_X2 hown hK hP (oS sS1) rfl 2 (by decide) hw2 rfl dX5_checksum_18 ?_
    refine lv_icmp_ge (tgt := 91) hx hb dX5_checksum_21 (by decide) (fun c5 => ?_) (fun c5 => ?_)
    · have h := h.1 c5
      refine lv_lload_n hx hb dX5_checksum_91 rfl (lv_at hl 1 rfl) ?_
      refine lv_aload_n hx hb dX5_checksum_92 rfl (lv_at hl 0 rfl) ?_
      refine zc_i (zc_runV (As := []) (rest := [.long b1]) ⟨hx, hb, hml, hown, hts⟩ (c_X5_clashes l D cc A ad rs  μ _ h) (cwV 0 hts gX5_checksum_X5_clashes rfl rfl rfl (by decide +kernel) ⟨Nat.le_of_ble_eq_true rfl, Nat.le_of_ble_eq_true rfl⟩) kX_0 rfl hK hN hP hD rfl hl.1 rfl (Nat.le_of_ble_eq_true rfl) dX5_checksum_93 ⟨Nat.zero_le _, Nat.zero_le _⟩) hS (fun r6 μ7 H locs h hP hD hS => ?_)
      refine zc_l (zc_runS (As := [.long b1, .int r6]) (rest := []) ⟨hx, hb, hml, hown, hts⟩ (c_X5_mix l D cc A ad rs b1 r6 μ7 _ h) (va_cwS 2 hts gX5_checksum_X5_mix rfl rfl rfl (by decide +kernel) ⟨Nat.le_of_ble_eq_true rfl, Nat.le_of_ble_eq_true rfl⟩) hK hN hP hD rfl hl.1 rfl (Nat.le_of_ble_eq_true rfl) dX5_checksum_96 ⟨Nat.zero_le _, Nat.zero_le _⟩) hS (fun r8 μ9 H locs h hP hD hS => ?_)
      refine lv_lstore_n (lv' := [(1, .long r8), (0, .ref (ad 0)), (3, .int b3)]) hx hb dX5_checksum_99 rfl hl (by decide) rfl (fun ls hl => ?_)
      refine lv_lload_n hx hb dX5_checksum_100 rfl (lv_at hl 0 rfl) ?_
      refine lv_aload_n hx hb dX5_checksum_101 rfl (lv_at hl 1 rfl) ?_
      refine zc_i (zc_runV (As := []) (rest := [.long r8]) ⟨hx, hb, hml, hown, hts⟩ (c_X5_orders l D cc A ad rs  μ9 _ h) (cwV 0 hts gX5_checksum_X5_orders rfl rfl rfl (by decide +kernel) ⟨Nat.le_of_ble_eq_true rfl, Nat.le_of_ble_eq_true rfl⟩) kX_0 rfl hK hN hP hD rfl hl.1 rfl (Nat.le_of_ble_eq_true rfl) dX5_checksum_102 ⟨Nat.zero_le _, Nat.zero_le _⟩) hS (fun r10 μ11 H locs h hP hD hS => ?_)
      refine zc_l (zc_runS (As := [.long r8, .int r10]) (rest := []) ⟨hx, hb, hml, hown, hts⟩ (c_X5_mix l D cc A ad rs r8 r10 μ11 _ h) (va_cwS 2 hts gX5_checksum_X5_mix rfl rfl rfl (by decide +kernel) ⟨Nat.le_of_ble_eq_true rfl, Nat.le_of_ble_eq_true rfl⟩) hK hN hP hD rfl hl.1 rfl (Nat.le_of_ble_eq_true rfl) dX5_checksum_105 ⟨Nat.zero_le _, Nat.zero_le _⟩) hS (fun r12 μ13 H locs h hP hD hS => ?_)
      refine lv_lstore_n (lv' := [(1, .long r12), (0, .ref (ad 0)), (3, .int b3)]) hx hb dX5_checksum_108 rfl hl (by decide) rfl (fun ls hl => ?_)
      refine lv_lload_n hx hb dX5_checksum_109 rfl (lv_at hl 0 rfl) ?_
      refine lv_aload_n hx hb dX5_checksum_110 rfl (lv_at hl 1 rfl) ?_
      refine zc_i (zc_runV (As := []) (rest := [.long r12]) ⟨hx, hb, hml, hown, hts⟩ (c_X5_open l D cc A ad rs  μ13 _ h) (cwV 0 hts gX5_checksum_X5_open rfl rfl rfl (by decide +kernel) ⟨Nat.le_of_ble_eq_true rfl, Nat.le_of_ble_eq_true rfl⟩) kX_0 rfl hK hN hP hD rfl hl.1 rfl (Nat.le_of_ble_eq_true rfl) dX5_checksum_111 ⟨Nat.zero_le _, Nat.zero_le _⟩) hS (fun r14 μ15 H locs h hP hD hS => ?_)
      refine zc_l (zc_runS (As := [.long r12, .int r14]) (rest := []) ⟨hx, hb, hml, hown, hts⟩ (c_X5_mix l D cc A ad rs r12 r14 μ15 _ h) (va_cwS 2 hts gX5_checksum_X5_mix rfl rfl rfl (by decide +kernel) ⟨Nat.le_of_ble_eq_true rfl, Nat.le_of_ble_eq_true rfl⟩) hK hN hP hD rfl hl.1 rfl (Nat.le_of_ble_eq_true rfl) dX5_checksum_114 ⟨Nat.zero_le _, Nat.zero_le _⟩) hS (fun r16 μ17 H locs h hP hD hS => ?_)
      refine lv_lstore_n (lv' := [(1, .long r16), (0, .ref (ad 0)), (3, .int b3)]) hx hb dX5_checksum_117 rfl hl (by decide) rfl (fun ls hl => ?_)
      refine lv_lload_n hx hb dX5_checksum_118 rfl (lv_at hl 0 rfl) ?_
      refine lv_aload_n hx hb dX5_checksum_119 rfl (lv_at hl 1 rfl) ?_
      refine zc_i (zc_runV (As := []) (rest := [.long r16]) ⟨hx, hb, hml, hown, hts⟩ (c_X5_isResolved l D cc A ad rs  μ17 _ h) (cwV 0 hts gX5_checksum_X5_isResolved rfl rfl rfl (by decide +kernel) ⟨Nat.le_of_ble_eq_true rfl, Nat.le_of_ble_eq_true rfl⟩) kX_0 rfl hK hN hP hD rfl hl.1 rfl (Nat.le_of_ble_eq_true rfl) dX5_checksum_120 ⟨Nat.zero_le _, Nat.zero_le _⟩) hS (fun r18 μ19 H locs h hP hD hS => ?_)
      refine zc_l (zc_runS (As := [.long r16, .int r18]) (rest := []) ⟨hx, hb, hml, hown, hts⟩ (c_X5_mix l D cc A ad rs r16 r18 μ19 _ h) (va_cwS 2 hts gX5_checksum_X5_mix rfl rfl rfl (by decide +kernel) ⟨Nat.le_of_ble_eq_true rfl, Nat.le_of_ble_eq_true rfl⟩) hK hN hP hD rfl hl.1 rfl (Nat.le_of_ble_eq_true rfl) dX5_checksum_123 ⟨Nat.zero_le _, Nat.zero_le _⟩) hS (fun r20 μ21 H locs h hP hD hS => ?_)
      refine lv_lstore_n (lv' := [(1, .long r20), (0, .ref (ad 0)), (3, .int b3)]) hx hb dX5_checksum_126 rfl hl (by decide) rfl (fun ls hl => ?_)
      refine lv_aload_n hx hb dX5_checksum_127 rfl (lv_at hl 1 rfl) ?_
      refine lv_lload_n hx hb dX5_checksum_128 rfl (lv_at hl 0 rfl) ?_
      refine zc_l (zc_runV (As := [.long r20]) (rest := []) ⟨hx, hb, hml, hown, hts⟩ (c_X5_mixResolvedOrder l D cc A ad rs r20 μ21 _ h) (cwV 1 hts gX5_checksum_X5_mixResolvedOrder rfl rfl rfl (by decide +kernel) ⟨Nat.le_of_ble_eq_true rfl, Nat.le_of_ble_eq_true rfl⟩) kX_0 rfl hK hN hP hD rfl hl.1 rfl (Nat.le_of_ble_eq_true rfl) dX5_checksum_129 ⟨Nat.zero_le _, Nat.zero_le _⟩) hS (fun r22 μ23 H locs h hP hD hS => ?_)
      refine lv_lstore_n (lv' := [(1, .long r22), (0, .ref (ad 0)), (3, .int b3)]) hx hb dX5_checksum_132 rfl hl (by decide) rfl (fun ls hl => ?_)
      refine lv_aload_n hx hb dX5_checksum_133 rfl (lv_at hl 1 rfl) ?_
      refine zc_v (zc_runV (As := []) (rest := []) ⟨hx, hb, hml, hown, hts⟩ (c_X5_findEffect l D cc A ad rs  μ23 _ h) (cwV 0 hts gX5_checksum_X5_findEffect rfl rfl rfl (by decide +kernel) ⟨Nat.le_of_ble_eq_true rfl, Nat.le_of_ble_eq_true rfl⟩) kX_0 rfl hK hN hP hD rfl hl.1 rfl (Nat.le_of_ble_eq_true rfl) dX5_checksum_134 ⟨Nat.zero_le _, Nat.zero_le _⟩) hS (fun μ25 H locs h hP hD hS => ?_)
      refine lv_aload_n hx hb dX5_checksum_137 rfl (lv_at hl 1 rfl) ?_
      refine lv_lload_n hx hb dX5_checksum_138 rfl (lv_at hl 0 rfl) ?_
      refine zc_l (zc_runV (As := [.long r22]) (rest := []) ⟨hx, hb, hml, hown, hts⟩ (c_X5_mixDifference l D cc A ad rs r22 μ25 _ h) (cwV 1 hts gX5_checksum_X5_mixDifference rfl rfl rfl (by decide +kernel) ⟨Nat.le_of_ble_eq_true rfl, Nat.le_of_ble_eq_true rfl⟩) kX_0 rfl hK hN hP hD rfl hl.1 rfl (Nat.le_of_ble_eq_true rfl) dX5_checksum_139 ⟨Nat.zero_le _, Nat.zero_le _⟩) hS (fun r26 μ27 H locs h hP hD hS => ?_)
      refine lv_lstore_n (lv' := [(1, .long r26), (0, .ref (ad 0)), (3, .int b3)]) hx hb dX5_checksum_142 rfl hl (by decide) rfl (fun ls hl => ?_)
      refine lv_aload_n hx hb dX5_checksum_143 rfl (lv_at hl 1 rfl) ?_
      refine lv_lload_n hx hb dX5_checksum_144 rfl (lv_at hl 0 rfl) ?_
      refine zc_l (zc_runV (As := [.long r26]) (rest := []) ⟨hx, hb, hml, hown, hts⟩ (c_X5_mixAnswers l D cc A ad rs r26 μ27 _ h) (cwV 1 hts gX5_checksum_X5_mixAnswers rfl rfl rfl (by decide +kernel) ⟨Nat.le_of_ble_eq_true rfl, Nat.le_of_ble_eq_true rfl⟩) kX_0 rfl hK hN hP hD rfl hl.1 rfl (Nat.le_of_ble_eq_true rfl) dX5_checksum_145 ⟨Nat.zero_le _, Nat.zero_le _⟩) hS (fun r28 μ29 H locs h hP hD hS => ?_)
      exact W.lret (v := r28) hx hb hr (fun t ht hW => ⟨⟨r28, μ29, rfl, h, PW.to hK hN hP hD t ht hW⟩, hS.F ht⟩) hS.2.2 dX5_checksum_148
    · have h := h.2 c5
      refine lv_lload_n hx hb dX5_checksum_24 rfl (lv_at hl 1 rfl) ?_
      refine lv_aload_n hx hb dX5_checksum_25 rfl (lv_at hl 0 rfl) ?_
      refine lv_iload_n hx hb dX5_checksum_26 rfl (lv_at hl 2 rfl) ?_
      refine zc_i (zc_runV (As := [.int b3]) (rest := [.long b1]) ⟨hx, hb, hml, hown, hts⟩ (c_X5_changes l D cc A ad rs b3 μ _ h) (cwV 1 hts gX5_checksum_X5_changes rfl rfl rfl (by decide +kernel) ⟨Nat.le_of_ble_eq_true rfl, Nat.le_of_ble_eq_true rfl⟩) kX_0 rfl hK hN hP hD rfl hl.1 rfl (Nat.le_of_ble_eq_true rfl) dX5_checksum_27 ⟨Nat.zero_le _, Nat.zero_le _⟩) hS (fun r30 μ31 H locs h hP hD hS => ?_)
      refine zc_l (zc_runS (As := [.long b1, .int r30]) (rest := []) ⟨hx, hb, hml, hown, hts⟩ (c_X5_mix l D cc A ad rs b1 r30 μ31 _ h) (va_cwS 2 hts gX5_checksum_X5_mix rfl rfl rfl (by decide +kernel) ⟨Nat.le_of_ble_eq_true rfl, Nat.le_of_ble_eq_true rfl⟩) hK hN hP hD rfl hl.1 rfl (Nat.le_of_ble_eq_true rfl) dX5_checksum_30 ⟨Nat.zero_le _, Nat.zero_le _⟩) hS (fun r32 μ33 H locs h hP hD hS => ?_)
      refine lv_lstore_n (lv' := [(1, .long r32), (0, .ref (ad 0)), (3, .int b3)]) hx hb dX5_checksum_33 rfl hl (by decide) rfl (fun ls hl => ?_)
      refine lv_lload_n hx hb dX5_checksum_34 rfl (lv_at hl 0 rfl) ?_
      refine lv_aload_n hx hb dX5_checksum_35 rfl (lv_at hl 1 rfl) ?_
      refine lv_iload_n hx hb dX5_checksum_36 rfl (lv_at hl 2 rfl) ?_
      refine zc_i (zc_runV (As := [.int b3]) (rest := [.long r32]) ⟨hx, hb, hml, hown, hts⟩ (c_X5_reach l D cc A ad rs b3 μ33 _ h) (cwV 1 hts gX5_checksum_X5_reach rfl rfl rfl (by decide +kernel) ⟨Nat.le_of_ble_eq_true rfl, Nat.le_of_ble_eq_true rfl⟩) kX_0 rfl hK hN hP hD rfl hl.1 rfl (Nat.le_of_ble_eq_true rfl) dX5_checksum_37 ⟨Nat.zero_le _, Nat.zero_le _⟩) hS (fun r34 μ35 H locs h hP hD hS => ?_)
      refine zc_l (zc_runS (As := [.long r32, .int r34]) (rest := []) ⟨hx, hb, hml, hown, hts⟩ (c_X5_mix l D cc A ad rs r32 r34 μ35 _ h) (va_cwS 2 hts gX5_checksum_X5_mix rfl rfl rfl (by decide +kernel) ⟨Nat.le_of_ble_eq_true rfl, Nat.le_of_ble_eq_true rfl⟩) hK hN hP hD rfl hl.1 rfl (Nat.le_of_ble_eq_true rfl) dX5_checksum_40 ⟨Nat.zero_le _, Nat.zero_le _⟩) hS (fun r36 μ37 H locs h hP hD hS => ?_)
      refine lv_lstore_n (lv' := [(1, .long r36), (0, .ref (ad 0)), (3, .int b3)]) hx hb dX5_checksum_43 rfl hl (by decide) rfl (fun ls hl => ?_)
      refine lv_iload_n hx hb dX5_checksum_44 rfl (lv_at hl 2 rfl) ?_
      refine lv_iconst (v := 1) hx hb dX5_checksum_45 (by decide) ?_
      refine lv_iadd hx hb dX5_checksum_46 ?_
      refine lv_topi (fun y38 ey38 => ?_)
      have h := h y38 ey38
      refine lv_istore (lv' := [(4, .int y38), (1, .long r36), (0, .ref (ad 0)), (3, .int b3)]) hx hb dX5_checksum_47 hl (by decide) rfl (fun ls hl => ?_)
      exact h _ _ _ hP hD hS (lv_sub hl [2, 1, 3, 0] rfl)
  case b49 =>
    intro b1 b3 b4 μ h H locs ls hP hD hS hl
    refine lv_iload hx hb dX5_checksum_49 (lv_at hl 3 rfl) ?_
    refine lv_aload_n hx hb dX5_checksum_51 rfl (lv_at hl 0 rfl) ?_
    refine zw_get (C := RX5) (T := TX5) (M := 12) (v := .ref (ad 1)) hx hb hts hi_X5 hown hK hP kX_0 rfl 0 (by decide) hw1 rfl dX5_checksum_52 ?_
    refine zw_get (C := RX2) (T := TX2) (M := 7) (v := .int (μ.1 1 2)) hx hb hts hi_X2 hown hK hP (oS sS1) rfl 2 (by decide) hw2 rfl dX5_checksum_55 ?_
    refine lv_icmp_ge (tgt := 85) hx hb dX5_checksum_58 (by decide) (fun c39 => ?_) (fun c39 => ?_)
    · have h := h.1 c39
      obtain ⟨y40, ey40⟩ : ∃ y : Int32, y = b3 + 1 := ⟨_, rfl⟩
      have h := h y40 ey40
      refine lv_iinc (v := y40) (lv' := [(3, .int y40), (0, .ref (ad 0)), (1, .long b1), (4, .int b4)]) hx hb dX5_checksum_85 hl (k := 2) rfl (by rw [ey40]; rfl) (by decide) rfl (fun ls hl => ?_)
      refine lv_goto (tgt := 13) hx hb dX5_checksum_88 (by decide) ?_
      exact h _ _ _ hP hD hS (lv_sub hl [1, 2, 0] rfl)
    · have h := h.2 c39
      refine lv_lload_n hx hb dX5_checksum_61 rfl (lv_at hl 1 rfl) ?_
      refine lv_aload_n hx hb dX5_checksum_62 rfl (lv_at hl 0 rfl) ?_
      refine lv_iload_n hx hb dX5_checksum_63 rfl (lv_at hl 2 rfl) ?_
      refine lv_iload hx hb dX5_checksum_64 (lv_at hl 3 rfl) ?_
      refine zc_i (zc_runV (As := [.int b3, .int b4]) (rest := [.long b1]) ⟨hx, hb, hml, hown, hts⟩ (c_X5_clash l D cc A ad rs b3 b4 μ _ h) (cwV 2 hts gX5_checksum_X5_clash rfl rfl rfl (by decide +kernel) ⟨Nat.le_of_ble_eq_true rfl, Nat.le_of_ble_eq_true rfl⟩) kX_0 rfl hK hN hP hD rfl hl.1 rfl (Nat.le_of_ble_eq_true rfl) dX5_checksum_66 ⟨Nat.zero_le _, Nat.zero_le _⟩) hS (fun r41 μ42 H locs h hP hD hS => ?_)
      refine zc_l (zc_runS (As := [.long b1, .int r41]) (rest := []) ⟨hx, hb, hml, hown, hts⟩ (c_X5_mix l D cc A ad rs b1 r41 μ42 _ h) (va_cwS 2 hts gX5_checksum_X5_mix rfl rfl rfl (by decide +kernel) ⟨Nat.le_of_ble_eq_true rfl, Nat.le_of_ble_eq_true rfl⟩) hK hN hP hD rfl hl.1 rfl (Nat.le_of_ble_eq_true rfl) dX5_checksum_69 ⟨Nat.zero_le _, Nat.zero_le _⟩) hS (fun r43 μ44 H locs h hP hD hS => ?_)
      refine lv_lstore_n (lv' := [(1, .long r43), (0, .ref (ad 0)), (3, .int b3), (4, .int b4)]) hx hb dX5_checksum_72 rfl hl (by decide) rfl (fun ls hl => ?_)
      refine lv_aload_n hx hb dX5_checksum_73 rfl (lv_at hl 1 rfl) ?_
      refine lv_lload_n hx hb dX5_checksum_74 rfl (lv_at hl 0 rfl) ?_
      refine zc_l (zc_runV (As := [.long r43]) (rest := []) ⟨hx, hb, hml, hown, hts⟩ (c_X5_mixDifference l D cc A ad rs r43 μ44 _ h) (cwV 1 hts gX5_checksum_X5_mixDifference rfl rfl rfl (by decide +kernel) ⟨Nat.le_of_ble_eq_true rfl, Nat.le_of_ble_eq_true rfl⟩) kX_0 rfl hK hN hP hD rfl hl.1 rfl (Nat.le_of_ble_eq_true rfl) dX5_checksum_75 ⟨Nat.zero_le _, Nat.zero_le _⟩) hS (fun r45 μ46 H locs h hP hD hS => ?_)
      refine lv_lstore_n (lv' := [(1, .long r45), (0, .ref (ad 0)), (3, .int b3), (4, .int b4)]) hx hb dX5_checksum_78 rfl hl (by decide) rfl (fun ls hl => ?_)
      obtain ⟨y47, ey47⟩ : ∃ y : Int32, y = b4 + 1 := ⟨_, rfl⟩
      have h := h y47 ey47
      refine lv_iinc (v := y47) (lv' := [(4, .int y47), (1, .long r45), (0, .ref (ad 0)), (3, .int b3)]) hx hb dX5_checksum_79 hl (k := 3) rfl (by rw [ey47]; rfl) (by decide) rfl (fun ls hl => ?_)
      refine lv_goto (tgt := 49) hx hb dX5_checksum_82 (by decide) ?_
      exact h _ _ _ hP hD hS (lv_sub hl [2, 1, 3, 0] rfl)
set_option maxHeartbeats 4000000 in
set_option maxRecDepth 100000 in
theorem c_X6_in (l : Launch) (D : va_G) (cc : Nat → ClassId) (A : Nat → Prop) (ad : Nat → Nat) (rs : va_W) (x0 : Int32) (x1 : Int32) (x2 : Int32) (μ : Mem) (K : Int32 → Mem → Prop) (h : f_X6_in x0 x1 x2 μ K) : Met l yX6_in wsX6_in ({ frames := 0, cells := 0, slots := 0, locals := 0 }) (va_Pc [.int x0, .int x1, .int x2] (PW shM 18 D cc A ad rs μ)) (va_Qi K (PW shM 18 D cc A ad rs) A) 0 0 A := by
  refine Met.ofW (cc := cX6_in) (maxL := 3) (ret := (some .boolean)) (by decide) rfl ?_
  intro p e s m args below meth c s₁ BB hml hv
  obtain ⟨rfl, hP, hK, hD, hN⟩ := hv
  have hx := BB.exec
  have hb := BB.bytes
  have hr := BB.returns
  have hts := atoms_spec (ws := wsX6_in) BB.pre
  have hown : s.vm.findClass RX6 = some m.cls := findClass_of_methodNamed BB.named
  have hlocks := BB.notSynchronized
  have hS : va_S A s.heap s.heap [] := va_S.rf
  have hl := lv_entry ([.int x0, .int x1, .int x2]) (n := 3) (Nat.le_of_ble_eq_true rfl)
  rw [lg_entry_eq]
  generalize (lg_sl ([.int x0, .int x1, .int x2]) ++ List.replicate (3 - (lg_sl ([.int x0, .int x1, .int x2])).length) Slot.unset).toArray = ls at hl ⊢
  have hl : lv_has ls 3 [(0, .int x0), (1, .int x1), (2, .int x2)] := hl
  unfold f_X6_in at h
  refine lv_iload_n hx hb dX6_in_0 rfl (lv_at hl 0 rfl) ?_
  refine lv_iload_n hx hb dX6_in_1 rfl (lv_at hl 1 rfl) ?_
  refine lv_icmp_lt (tgt := 14) hx hb dX6_in_2 (by decide) (fun c1 => ?_) (fun c1 => ?_)
  · have h := h.1 c1
    refine lv_iconst (v := 0) hx hb dX6_in_14 (by decide) ?_
    exact W.zret (ty := .boolean) (v := 0) hx hb hr rfl (fun t ht hW => ⟨⟨0, μ, rfl, h, PW.to hK hN hP hD t ht hW⟩, hS.F ht⟩) hS.2.2 dX6_in_15
  · have h := h.2 c1
    refine lv_iload_n hx hb dX6_in_5 rfl (lv_at hl 0 rfl) ?_
    refine lv_iload_n hx hb dX6_in_6 rfl (lv_at hl 2 rfl) ?_
    refine lv_icmp_gt (tgt := 14) hx hb dX6_in_7 (by decide) (fun c2 => ?_) (fun c2 => ?_)
    · have h := h.1 c2
      refine lv_iconst (v := 0) hx hb dX6_in_14 (by decide) ?_
      exact W.zret (ty := .boolean) (v := 0) hx hb hr rfl (fun t ht hW => ⟨⟨0, μ, rfl, h, PW.to hK hN hP hD t ht hW⟩, hS.F ht⟩) hS.2.2 dX6_in_15
    · have h := h.2 c2
      refine lv_iconst (v := 1) hx hb dX6_in_10 (by decide) ?_
      refine lv_goto (tgt := 15) hx hb dX6_in_11 (by decide) ?_
      exact W.zret (ty := .boolean) (v := 1) hx hb hr rfl (fun t ht hW => ⟨⟨1, μ, rfl, h, PW.to hK hN hP hD t ht hW⟩, hS.F ht⟩) hS.2.2 dX6_in_15
set_option maxHeartbeats 4000000 in
set_option maxRecDepth 100000 in
theorem c_X6_anew (l : Launch) (D : va_G) (cc : Nat → ClassId) (A : Nat → Prop) (ad : Nat → Nat) (rs : va_W) (x1 : Int32) (x2 : Int32) (μ : Mem) (K : Mem → Prop) (h : f_X6_anew x1 x2 μ K) : Met l yX6_anew wsX6_anew ({ frames := 0, cells := 0, slots := 0, locals := 0 }) (va_Pc [.ref (ad 0), .int x1, .int x2] (PW shM 18 D cc A ad rs μ)) (va_Qv K (PW shM 18 D cc A ad rs) A) 0 0 A := by
  refine Met.ofW (cc := cX6_anew) (maxL := 4) (ret := none) (by decide) rfl ?_
  intro p e s m args below meth c s₁ BB hml hv
  obtain ⟨rfl, hP, hK, hD, hN⟩ := hv
  have hx := BB.exec
  have hb := BB.bytes
  have hr := BB.returns
  have hts := atoms_spec (ws := wsX6_anew) BB.pre
  have hown : s.vm.findClass RX6 = some m.cls := findClass_of_methodNamed BB.named
  have hlocks := BB.notSynchronized
  have hi_X6 : ∀ w ∈ u_ws RX6 TX6 22, w ∈ wsX6_anew := by decide +kernel
  have hw0 := hts (.fieldLink RX6 7 "FeatureClashesModel" "v" "[I") (by decide +kernel)
  have hS : va_S A s.heap s.heap [] := va_S.rf
  have hl := lv_entry ([.ref (ad 0), .int x1, .int x2]) (n := 4) (Nat.le_of_ble_eq_true rfl)
  rw [lg_entry_eq]
  generalize (lg_sl ([.ref (ad 0), .int x1, .int x2]) ++ List.replicate (4 - (lg_sl ([.ref (ad 0), .int x1, .int x2])).length) Slot.unset).toArray = ls at hl ⊢
  have hl : lv_has ls 4 [(0, .ref (ad 0)), (1, .int x1), (2, .int x2)] := hl
  unfold f_X6_anew at h
  refine (fun h => ?main) (h (fun b1 b2 b3 μ => ∀ (H1 : Heap) (locs : List Loc) (ls : Array Slot), va_P D vwCl (wW shM 18 cc ad μ ++ rs) H1 → va_D A (wW shM 18 cc ad μ ++ rs) → va_S A s.heap H1 locs → lv_has ls 4 [(0, .ref (ad 0)), (1, .int b1), (2, .int b2), (3, .int b3)] → W p l e (headSpec wsX6_anew ({ frames := 0, cells := 0, slots := 0, locals := 0 })).room s m ([.ref (ad 0), .int x1, .int x2] : List Value).toArray below meth c H1 locs 0 0 (MQ below (va_Qv K (PW shM 18 D cc A ad rs) A) ([.ref (ad 0), .int x1, .int x2] : List Value).toArray s 0 0 A) (F0 m 2 ls ([]))) (fun b3 μ => ∀ (H1 : Heap) (locs : List Loc) (ls : Array Slot), va_P D vwCl (wW shM 18 cc ad μ ++ rs) H1 → va_D A (wW shM 18 cc ad μ ++ rs) → va_S A s.heap H1 locs → lv_has ls 4 [(0, .ref (ad 0)), (3, .int b3)] → W p l e (headSpec wsX6_anew ({ frames := 0, cells := 0, slots := 0, locals := 0 })).room s m ([.ref (ad 0), .int x1, .int x2] : List Value).toArray below meth c H1 locs 0 0 (MQ below (va_Qv K (PW shM 18 D cc A ad rs) A) ([.ref (ad 0), .int x1, .int x2] : List Value).toArray s 0 0 A) (F0 m 38 ls ([]))) ?b2 ?b38)
  case main =>
      refine lv_iconst (v := 0) hx hb dX6_anew_0 (by decide) ?_
      refine lv_istore_n (lv' := [(3, .int 0), (0, .ref (ad 0)), (1, .int x1), (2, .int x2)]) hx hb dX6_anew_1 rfl hl (by decide) rfl (fun ls hl => ?_)
      exact h _ _ _ hP hD hS (lv_sub hl [1, 2, 3, 0] rfl)
  case b2 =>
    intro b1 b2 b3 μ h H locs ls hP hD hS hl
    refine lv_iload_n hx hb dX6_anew_2 rfl (lv_at hl 3 rfl) ?_
    refine lv_sipush (v := 239) hx hb dX6_anew_3 (by decide) ?_
    refine lv_icmp_ge (tgt := 22) hx hb dX6_anew_6 (by decide) (fun c1 => ?_) (fun c1 => ?_)
    · have h := h.1 c1
      refine lv_aload_n hx hb dX6_anew_22 rfl (lv_at hl 0 rfl) ?_
      refine zw_get (C := RX6) (T := TX6) (M := 22) (v := .ref (ad 1)) hx hb hts hi_X6 hown hK hP kM_0 rfl 0 (by decide) hw0 rfl dX6_anew_23 ?_
      refine lv_iconst (v := 0) hx hb dX6_anew_26 (by decide) ?_
      refine lv_iload_n hx hb dX6_anew_27 rfl (lv_at hl 1 rfl) ?_
      obtain ⟨hi2, h⟩ := h
      refine zw_iast hx hb hK hP hD hS kM_1 hi2 dX6_anew_28 (fun μ3 H locs eμ3 hP hD hS => ?_)
      have h := h μ3 eμ3
      refine lv_aload_n hx hb dX6_anew_29 rfl (lv_at hl 0 rfl) ?_
      refine zw_get (C := RX6) (T := TX6) (M := 22) (v := .ref (ad 1)) hx hb hts hi_X6 hown hK hP kM_0 rfl 0 (by decide) hw0 rfl dX6_anew_30 ?_
      refine lv_iconst (v := 1) hx hb dX6_anew_33 (by decide) ?_
      refine lv_iload_n hx hb dX6_anew_34 rfl (lv_at hl 2 rfl) ?_
      obtain ⟨hi4, h⟩ := h
      refine zw_iast hx hb hK hP hD hS kM_1 hi4 dX6_anew_35 (fun μ5 H locs eμ5 hP hD hS => ?_)
      have h := h μ5 eμ5
      refine lv_iconst (v := 0) hx hb dX6_anew_36 (by decide) ?_
      refine lv_istore_n (lv' := [(3, .int 0), (0, .ref (ad 0)), (1, .int b1), (2, .int b2)]) hx hb dX6_anew_37 rfl hl (by decide) rfl (fun ls hl => ?_)
      exact h _ _ _ hP hD hS (lv_sub hl [1, 0] rfl)
    · have h := h.2 c1
      refine lv_aload_n hx hb dX6_anew_9 rfl (lv_at hl 0 rfl) ?_
      refine zw_get (C := RX6) (T := TX6) (M := 22) (v := .ref (ad 1)) hx hb hts hi_X6 hown hK hP kM_0 rfl 0 (by decide) hw0 rfl dX6_anew_10 ?_
      refine lv_iload_n hx hb dX6_anew_13 rfl (lv_at hl 3 rfl) ?_
      refine lv_iconst (v := 0) hx hb dX6_anew_14 (by decide) ?_
      obtain ⟨hi6, h⟩ := h
      refine zw_iast hx hb hK hP hD hS kM_1 hi6 dX6_anew_15 (fun μ7 H locs eμ7 hP hD hS => ?_)
      have h := h μ7 eμ7
      obtain ⟨y8, ey8⟩ : ∃ y : Int32, y = b3 + 1 := ⟨_, rfl⟩
      have h := h y8 ey8
      refine lv_iinc (v := y8) (lv' := [(3, .int y8), (0, .ref (ad 0)), (1, .int b1), (2, .int b2)]) hx hb dX6_anew_16 hl (k := 3) rfl (by rw [ey8]; rfl) (by decide) rfl (fun ls hl => ?_)
      refine lv_goto (tgt := 2) hx hb dX6_anew_19 (by decide) ?_
      exact h _ _ _ hP hD hS (lv_sub hl [1, 2, 3, 0] rfl)
  case b38 =>
    intro b3 μ h H locs ls hP hD hS hl
    refine lv_iload_n hx hb dX6_anew_38 rfl (lv_at hl 1 rfl) ?_
    refine lv_bipush (v := 32) hx hb dX6_anew_39 (by decide) ?_
    refine lv_icmp_ge (tgt := 59) hx hb dX6_anew_41 (by decide) (fun c9 => ?_) (fun c9 => ?_)
    · have h := h.1 c9
      exact W.vret hx hb hr (fun t ht hW => ⟨⟨μ, rfl, h, PW.to hK hN hP hD t ht hW⟩, hS.F ht⟩) hS.2.2 dX6_anew_59
    · have h := h.2 c9
      refine lv_aload_n hx hb dX6_anew_44 rfl (lv_at hl 0 rfl) ?_
      refine zw_get (C := RX6) (T := TX6) (M := 22) (v := .ref (ad 1)) hx hb hts hi_X6 hown hK hP kM_0 rfl 0 (by decide) hw0 rfl dX6_anew_45 ?_
      refine lv_iconst (v := 2) hx hb dX6_anew_48 (by decide) ?_
      refine lv_iload_n hx hb dX6_anew_49 rfl (lv_at hl 1 rfl) ?_
      refine lv_iadd hx hb dX6_anew_50 ?_
      refine lv_iconst (v := (-1)) hx hb dX6_anew_51 (by decide) ?_
      obtain ⟨hi10, h⟩ := h
      refine zw_iast hx hb hK hP hD hS kM_1 hi10 dX6_anew_52 (fun μ11 H locs eμ11 hP hD hS => ?_)
      have h := h μ11 eμ11
      obtain ⟨y12, ey12⟩ : ∃ y : Int32, y = b3 + 1 := ⟨_, rfl⟩
      have h := h y12 ey12
      refine lv_iinc (v := y12) (lv' := [(3, .int y12), (0, .ref (ad 0))]) hx hb dX6_anew_53 hl (k := 1) rfl (by rw [ey12]; rfl) (by decide) rfl (fun ls hl => ?_)
      refine lv_goto (tgt := 38) hx hb dX6_anew_56 (by decide) ?_
      exact h _ _ _ hP hD hS (lv_sub hl [1, 0] rfl)
set_option maxHeartbeats 4000000 in
set_option maxRecDepth 100000 in
theorem c_X6_isState (l : Launch) (D : va_G) (cc : Nat → ClassId) (A : Nat → Prop) (ad : Nat → Nat) (rs : va_W) (x1 : Int32) (μ : Mem) (K : Int32 → Mem → Prop) (h : f_X6_isState x1 μ K) : Met l yX6_isState wsX6_isState ({ frames := 1, cells := 0, slots := 0, locals := 22 }) (va_Pc [.ref (ad 0), .int x1] (PW shM 18 D cc A ad rs μ)) (va_Qi K (PW shM 18 D cc A ad rs) A) 0 0 A := by
  refine Met.ofW (cc := cX6_isState) (maxL := 2) (ret := (some .boolean)) (by decide) rfl ?_
  intro p e s m args below meth c s₁ BB hml hv
  obtain ⟨rfl, hP, hK, hD, hN⟩ := hv
  have hx := BB.exec
  have hb := BB.bytes
  have hr := BB.returns
  have hts := atoms_spec (ws := wsX6_isState) BB.pre
  have hown : s.vm.findClass RX6 = some m.cls := findClass_of_methodNamed BB.named
  have hlocks := BB.notSynchronized
  have hi_X6 : ∀ w ∈ u_ws RX6 TX6 22, w ∈ wsX6_isState := by decide +kernel
  have hw0 := hts (.fieldLink RX6 7 "FeatureClashesModel" "v" "[I") (by decide +kernel)
  have hS : va_S A s.heap s.heap [] := va_S.rf
  have hl := lv_entry ([.ref (ad 0), .int x1]) (n := 2) (Nat.le_of_ble_eq_true rfl)
  rw [lg_entry_eq]
  generalize (lg_sl ([.ref (ad 0), .int x1]) ++ List.replicate (2 - (lg_sl ([.ref (ad 0), .int x1])).length) Slot.unset).toArray = ls at hl ⊢
  have hl : lv_has ls 2 [(0, .ref (ad 0)), (1, .int x1)] := hl
  unfold f_X6_isState at h
  refine lv_iload_n hx hb dX6_isState_0 rfl (lv_at hl 1 rfl) ?_
  refine lv_iconst (v := 0) hx hb dX6_isState_1 (by decide) ?_
  refine lv_aload_n hx hb dX6_isState_2 rfl (lv_at hl 0 rfl) ?_
  refine zw_get (C := RX6) (T := TX6) (M := 22) (v := .ref (ad 1)) hx hb hts hi_X6 hown hK hP kM_0 rfl 0 (by decide) hw0 rfl dX6_isState_3 ?_
  refine lv_iconst (v := 0) hx hb dX6_isState_6 (by decide) ?_
  obtain ⟨hi1, h⟩ := h
  refine zw_iald hx hb hK hP kM_1 hi1 dX6_isState_7 ?_
  refine lv_iconst (v := 1) hx hb dX6_isState_8 (by decide) ?_
  refine lv_isub hx hb dX6_isState_9 ?_
  refine zc_i (zc_runS (As := [.int x1, .int 0, .int ((μ.1 1 (0 : Int32).toNatClampNeg) - 1)]) (rest := []) ⟨hx, hb, hml, hown, hts⟩ (c_X6_in l D cc A ad rs x1 0 ((μ.1 1 (0 : Int32).toNatClampNeg) - 1) μ _ h) (va_cwS 3 hts gX6_isState_X6_in rfl rfl rfl (by decide +kernel) ⟨Nat.le_of_ble_eq_true rfl, Nat.le_of_ble_eq_true rfl⟩) hK hN hP hD rfl hl.1 rfl (Nat.le_of_ble_eq_true rfl) dX6_isState_10 ⟨Nat.zero_le _, Nat.zero_le _⟩) hS (fun r2 μ3 H locs h hP hD hS => ?_)
  obtain ⟨hz, h⟩ := h
  exact W.zret (ty := .boolean) (v := r2) hx hb hr hz (fun t ht hW => ⟨⟨r2, μ3, rfl, h, PW.to hK hN hP hD t ht hW⟩, hS.F ht⟩) hS.2.2 dX6_isState_13
set_option maxHeartbeats 4000000 in
set_option maxRecDepth 100000 in
theorem c_X6_isLetter (l : Launch) (D : va_G) (cc : Nat → ClassId) (A : Nat → Prop) (ad : Nat → Nat) (rs : va_W) (x1 : Int32) (μ : Mem) (K : Int32 → Mem → Prop) (h : f_X6_isLetter x1 μ K) : Met l yX6_isLetter wsX6_isLetter ({ frames := 1, cells := 0, slots := 0, locals := 22 }) (va_Pc [.ref (ad 0), .int x1] (PW shM 18 D cc A ad rs μ)) (va_Qi K (PW shM 18 D cc A ad rs) A) 0 0 A := by
  refine Met.ofW (cc := cX6_isLetter) (maxL := 2) (ret := (some .boolean)) (by decide) rfl ?_
  intro p e s m args below meth c s₁ BB hml hv
  obtain ⟨rfl, hP, hK, hD, hN⟩ := hv
  have hx := BB.exec
  have hb := BB.bytes
  have hr := BB.returns
  have hts := atoms_spec (ws := wsX6_isLetter) BB.pre
  have hown : s.vm.findClass RX6 = some m.cls := findClass_of_methodNamed BB.named
  have hlocks := BB.notSynchronized
  have hi_X6 : ∀ w ∈ u_ws RX6 TX6 22, w ∈ wsX6_isLetter := by decide +kernel
  have hw0 := hts (.fieldLink RX6 7 "FeatureClashesModel" "v" "[I") (by decide +kernel)
  have hS : va_S A s.heap s.heap [] := va_S.rf
  have hl := lv_entry ([.ref (ad 0), .int x1]) (n := 2) (Nat.le_of_ble_eq_true rfl)
  rw [lg_entry_eq]
  generalize (lg_sl ([.ref (ad 0), .int x1]) ++ List.replicate (2 - (lg_sl ([.ref (ad 0), .int x1])).length) Slot.unset).toArray = ls at hl ⊢
  have hl : lv_has ls 2 [(0, .ref (ad 0)), (1, .int x1)] := hl
  unfold f_X6_isLetter at h
  refine lv_iload_n hx hb dX6_isLetter_0 rfl (lv_at hl 1 rfl) ?_
  refine lv_iconst (v := 0) hx hb dX6_isLetter_1 (by decide) ?_
  refine lv_aload_n hx hb dX6_isLetter_2 rfl (lv_at hl 0 rfl) ?_
  refine zw_get (C := RX6) (T := TX6) (M := 22) (v := .ref (ad 1)) hx hb hts hi_X6 hown hK hP kM_0 rfl 0 (by decide) hw0 rfl dX6_isLetter_3 ?_
  refine lv_iconst (v := 1) hx hb dX6_isLetter_6 (by decide) ?_
  obtain ⟨hi1, h⟩ := h
  refine zw_iald hx hb hK hP kM_1 hi1 dX6_isLetter_7 ?_
  refine lv_iconst (v := 1) hx hb dX6_isLetter_8 (by decide) ?_
  refine lv_isub hx hb dX6_isLetter_9 ?_
  refine zc_i (zc_runS (As := [.int x1, .int 0, .int ((μ.1 1 (1 : Int32).toNatClampNeg) - 1)]) (rest := []) ⟨hx, hb, hml, hown, hts⟩ (c_X6_in l D cc A ad rs x1 0 ((μ.1 1 (1 : Int32).toNatClampNeg) - 1) μ _ h) (va_cwS 3 hts gX6_isLetter_X6_in rfl rfl rfl (by decide +kernel) ⟨Nat.le_of_ble_eq_true rfl, Nat.le_of_ble_eq_true rfl⟩) hK hN hP hD rfl hl.1 rfl (Nat.le_of_ble_eq_true rfl) dX6_isLetter_10 ⟨Nat.zero_le _, Nat.zero_le _⟩) hS (fun r2 μ3 H locs h hP hD hS => ?_)
  obtain ⟨hz, h⟩ := h
  exact W.zret (ty := .boolean) (v := r2) hx hb hr hz (fun t ht hW => ⟨⟨r2, μ3, rfl, h, PW.to hK hN hP hD t ht hW⟩, hS.F ht⟩) hS.2.2 dX6_isLetter_13
set_option maxHeartbeats 4000000 in
set_option maxRecDepth 100000 in
theorem c_X6_isFeature (l : Launch) (D : va_G) (cc : Nat → ClassId) (A : Nat → Prop) (ad : Nat → Nat) (rs : va_W) (x1 : Int32) (μ : Mem) (K : Int32 → Mem → Prop) (h : f_X6_isFeature x1 μ K) : Met l yX6_isFeature wsX6_isFeature ({ frames := 1, cells := 0, slots := 0, locals := 22 }) (va_Pc [.ref (ad 0), .int x1] (PW shM 18 D cc A ad rs μ)) (va_Qi K (PW shM 18 D cc A ad rs) A) 0 0 A := by
  refine Met.ofW (cc := cX6_isFeature) (maxL := 2) (ret := (some .boolean)) (by decide) rfl ?_
  intro p e s m args below meth c s₁ BB hml hv
  obtain ⟨rfl, hP, hK, hD, hN⟩ := hv
  have hx := BB.exec
  have hb := BB.bytes
  have hr := BB.returns
  have hts := atoms_spec (ws := wsX6_isFeature) BB.pre
  have hown : s.vm.findClass RX6 = some m.cls := findClass_of_methodNamed BB.named
  have hlocks := BB.notSynchronized
  have hi_X6 : ∀ w ∈ u_ws RX6 TX6 22, w ∈ wsX6_isFeature := by decide +kernel
  have hw0 := hts (.fieldLink RX6 7 "FeatureClashesModel" "v" "[I") (by decide +kernel)
  have hS : va_S A s.heap s.heap [] := va_S.rf
  have hl := lv_entry ([.ref (ad 0), .int x1]) (n := 2) (Nat.le_of_ble_eq_true rfl)
  rw [lg_entry_eq]
  generalize (lg_sl ([.ref (ad 0), .int x1]) ++ List.replicate (2 - (lg_sl ([.ref (ad 0), .int x1])).length) Slot.unset).toArray = ls at hl ⊢
  have hl : lv_has ls 2 [(0, .ref (ad 0)), (1, .int x1)] := hl
  unfold f_X6_isFeature at h
  refine lv_iload_n hx hb dX6_isFeature_0 rfl (lv_at hl 1 rfl) ?_
  refine lv_iconst (v := 0) hx hb dX6_isFeature_1 (by decide) ?_
  refine lv_aload_n hx hb dX6_isFeature_2 rfl (lv_at hl 0 rfl) ?_
  refine zw_get (C := RX6) (T := TX6) (M := 22) (v := .ref (ad 1)) hx hb hts hi_X6 hown hK hP kM_0 rfl 0 (by decide) hw0 rfl dX6_isFeature_3 ?_
  refine lv_bipush (v := 34) hx hb dX6_isFeature_6 (by decide) ?_
  obtain ⟨hi1, h⟩ := h
  refine zw_iald hx hb hK hP kM_1 hi1 dX6_isFeature_8 ?_
  refine lv_iconst (v := 1) hx hb dX6_isFeature_9 (by decide) ?_
  refine lv_isub hx hb dX6_isFeature_10 ?_
  refine zc_i (zc_runS (As := [.int x1, .int 0, .int ((μ.1 1 (34 : Int32).toNatClampNeg) - 1)]) (rest := []) ⟨hx, hb, hml, hown, hts⟩ (c_X6_in l D cc A ad rs x1 0 ((μ.1 1 (34 : Int32).toNatClampNeg) - 1) μ _ h) (va_cwS 3 hts gX6_isFeature_X6_in rfl rfl rfl (by decide +kernel) ⟨Nat.le_of_ble_eq_true rfl, Nat.le_of_ble_eq_true rfl⟩) hK hN hP hD rfl hl.1 rfl (Nat.le_of_ble_eq_true rfl) dX6_isFeature_11 ⟨Nat.zero_le _, Nat.zero_le _⟩) hS (fun r2 μ3 H locs h hP hD hS => ?_)
  obtain ⟨hz, h⟩ := h
  exact W.zret (ty := .boolean) (v := r2) hx hb hr hz (fun t ht hW => ⟨⟨r2, μ3, rfl, h, PW.to hK hN hP hD t ht hW⟩, hS.F ht⟩) hS.2.2 dX6_isFeature_14
set_option maxHeartbeats 4000000 in
set_option maxRecDepth 100000 in
theorem c_X6_at (l : Launch) (D : va_G) (cc : Nat → ClassId) (A : Nat → Prop) (ad : Nat → Nat) (rs : va_W) (x0 : Int32) (x1 : Int32) (μ : Mem) (K : Int32 → Mem → Prop) (h : f_X6_at x0 x1 μ K) : Met l yX6_at wsX6_at ({ frames := 0, cells := 0, slots := 0, locals := 0 }) (va_Pc [.int x0, .int x1] (PW shM 18 D cc A ad rs μ)) (va_Qi K (PW shM 18 D cc A ad rs) A) 0 0 A := by
  refine Met.ofW (cc := cX6_at) (maxL := 2) (ret := (some .int)) (by decide) rfl ?_
  intro p e s m args below meth c s₁ BB hml hv
  obtain ⟨rfl, hP, hK, hD, hN⟩ := hv
  have hx := BB.exec
  have hb := BB.bytes
  have hr := BB.returns
  have hts := atoms_spec (ws := wsX6_at) BB.pre
  have hown : s.vm.findClass RX6 = some m.cls := findClass_of_methodNamed BB.named
  have hlocks := BB.notSynchronized
  have hS : va_S A s.heap s.heap [] := va_S.rf
  have hl := lv_entry ([.int x0, .int x1]) (n := 2) (Nat.le_of_ble_eq_true rfl)
  rw [lg_entry_eq]
  generalize (lg_sl ([.int x0, .int x1]) ++ List.replicate (2 - (lg_sl ([.int x0, .int x1])).length) Slot.unset).toArray = ls at hl ⊢
  have hl : lv_has ls 2 [(0, .int x0), (1, .int x1)] := hl
  unfold f_X6_at at h
  refine lv_bipush (v := 35) hx hb dX6_at_0 (by decide) ?_
  refine lv_bipush (v := 34) hx hb dX6_at_2 (by decide) ?_
  refine lv_iload_n hx hb dX6_at_4 rfl (lv_at hl 0 rfl) ?_
  refine lv_imul hx hb dX6_at_5 ?_
  refine lv_iadd hx hb dX6_at_6 ?_
  refine lv_iload_n hx hb dX6_at_7 rfl (lv_at hl 1 rfl) ?_
  refine lv_iadd hx hb dX6_at_8 ?_
  exact W.iret (v := (35 + (34 * x0)) + x1) hx hb hr (fun t ht hW => ⟨⟨(35 + (34 * x0)) + x1, μ, rfl, h, PW.to hK hN hP hD t ht hW⟩, hS.F ht⟩) hS.2.2 dX6_at_9
set_option maxHeartbeats 4000000 in
set_option maxRecDepth 100000 in
theorem c_X6_begin (l : Launch) (D : va_G) (cc : Nat → ClassId) (A : Nat → Prop) (ad : Nat → Nat) (rs : va_W) (x1 : Int32) (x2 : Int32) (μ : Mem) (K : Int32 → Mem → Prop) (h : f_X6_begin x1 x2 μ K) : Met l yX6_begin wsX6_begin ({ frames := 1, cells := 0, slots := 0, locals := 23 }) (va_Pc [.ref (ad 0), .int x1, .int x2] (PW shM 18 D cc A ad rs μ)) (va_Qi K (PW shM 18 D cc A ad rs) A) 0 0 A := by
  refine Met.ofW (cc := cX6_begin) (maxL := 4) (ret := (some .int)) (by decide) rfl ?_
  intro p e s m args below meth c s₁ BB hml hv
  obtain ⟨rfl, hP, hK, hD, hN⟩ := hv
  have hx := BB.exec
  have hb := BB.bytes
  have hr := BB.returns
  have hts := atoms_spec (ws := wsX6_begin) BB.pre
  have hown : s.vm.findClass RX6 = some m.cls := findClass_of_methodNamed BB.named
  have hlocks := BB.notSynchronized
  have hi_X6 : ∀ w ∈ u_ws RX6 TX6 22, w ∈ wsX6_begin := by decide +kernel
  have hw0 := hts (.fieldLink RX6 7 "FeatureClashesModel" "v" "[I") (by decide +kernel)
  have hw1 := hts (.fieldLink RX6 70 "FeatureClashesModel" "letters" "I") (by decide +kernel)
  have hS : va_S A s.heap s.heap [] := va_S.rf
  have hl := lv_entry ([.ref (ad 0), .int x1, .int x2]) (n := 4) (Nat.le_of_ble_eq_true rfl)
  rw [lg_entry_eq]
  generalize (lg_sl ([.ref (ad 0), .int x1, .int x2]) ++ List.replicate (4 - (lg_sl ([.ref (ad 0), .int x1, .int x2])).length) Slot.unset).toArray = ls at hl ⊢
  have hl : lv_has ls 4 [(0, .ref (ad 0)), (1, .int x1), (2, .int x2)] := hl
  unfold f_X6_begin at h
  refine lv_iload_n hx hb dX6_begin_0 rfl (lv_at hl 1 rfl) ?_
  refine lv_iconst (v := 1) hx hb dX6_begin_1 (by decide) ?_
  refine lv_bipush (v := 8) hx hb dX6_begin_2 (by decide) ?_
  refine zc_i (zc_runS (As := [.int x1, .int 1, .int 8]) (rest := []) ⟨hx, hb, hml, hown, hts⟩ (c_X6_in l D cc A ad rs x1 1 8 μ _ h) (va_cwS 3 hts gX6_begin_X6_in rfl rfl rfl (by decide +kernel) ⟨Nat.le_of_ble_eq_true rfl, Nat.le_of_ble_eq_true rfl⟩) hK hN hP hD rfl hl.1 rfl (Nat.le_of_ble_eq_true rfl) dX6_begin_4 ⟨Nat.zero_le _, Nat.zero_le _⟩) hS (fun r1 μ2 H locs h hP hD hS => ?_)
  refine lv_if_eq (tgt := 19) hx hb dX6_begin_7 (by decide) (fun c3 => ?_) (fun c3 => ?_)
  · have h := h.1 c3
    refine lv_bipush (v := (-2)) hx hb dX6_begin_19 (by decide) ?_
    exact W.iret (v := (-2)) hx hb hr (fun t ht hW => ⟨⟨(-2), μ2, rfl, h, PW.to hK hN hP hD t ht hW⟩, hS.F ht⟩) hS.2.2 dX6_begin_21
  · have h := h.2 c3
    refine lv_iload_n hx hb dX6_begin_10 rfl (lv_at hl 2 rfl) ?_
    refine lv_iconst (v := 1) hx hb dX6_begin_11 (by decide) ?_
    refine lv_iconst (v := 4) hx hb dX6_begin_12 (by decide) ?_
    refine zc_i (zc_runS (As := [.int x2, .int 1, .int 4]) (rest := []) ⟨hx, hb, hml, hown, hts⟩ (c_X6_in l D cc A ad rs x2 1 4 μ2 _ h) (va_cwS 3 hts gX6_begin_X6_in rfl rfl rfl (by decide +kernel) ⟨Nat.le_of_ble_eq_true rfl, Nat.le_of_ble_eq_true rfl⟩) hK hN hP hD rfl hl.1 rfl (Nat.le_of_ble_eq_true rfl) dX6_begin_13 ⟨Nat.zero_le _, Nat.zero_le _⟩) hS (fun r4 μ5 H locs h hP hD hS => ?_)
    refine lv_if_ne (tgt := 22) hx hb dX6_begin_16 (by decide) (fun c6 => ?_) (fun c6 => ?_)
    · have h := h.1 c6
      refine lv_bipush (v := 10) hx hb dX6_begin_22 (by decide) ?_
      refine lv_aload_n hx hb dX6_begin_24 rfl (lv_at hl 0 rfl) ?_
      refine zw_get (C := RX6) (T := TX6) (M := 22) (v := .ref (ad 1)) hx hb hts hi_X6 hown hK hP kM_0 rfl 0 (by decide) hw0 rfl dX6_begin_25 ?_
      refine lv_iconst (v := 0) hx hb dX6_begin_28 (by decide) ?_
      obtain ⟨hi7, h⟩ := h
      refine zw_iald hx hb hK hP kM_1 hi7 dX6_begin_29 ?_
      refine lv_imul hx hb dX6_begin_30 ?_
      refine lv_aload_n hx hb dX6_begin_31 rfl (lv_at hl 0 rfl) ?_
      refine zw_get (C := RX6) (T := TX6) (M := 22) (v := .ref (ad 1)) hx hb hts hi_X6 hown hK hP kM_0 rfl 0 (by decide) hw0 rfl dX6_begin_32 ?_
      refine lv_iconst (v := 1) hx hb dX6_begin_35 (by decide) ?_
      obtain ⟨hi8, h⟩ := h
      refine zw_iald hx hb hK hP kM_1 hi8 dX6_begin_36 ?_
      refine lv_iadd hx hb dX6_begin_37 ?_
      refine lv_topi (fun y9 ey9 => ?_)
      have h := h y9 ey9
      refine lv_istore_n (lv' := [(3, .int y9), (0, .ref (ad 0)), (1, .int x1), (2, .int x2)]) hx hb dX6_begin_38 rfl hl (by decide) rfl (fun ls hl => ?_)
      refine lv_aload_n hx hb dX6_begin_39 rfl (lv_at hl 1 rfl) ?_
      refine lv_iload_n hx hb dX6_begin_40 rfl (lv_at hl 2 rfl) ?_
      refine lv_iload_n hx hb dX6_begin_41 rfl (lv_at hl 3 rfl) ?_
      refine zc_v (zc_runV (As := [.int x1, .int x2]) (rest := []) ⟨hx, hb, hml, hown, hts⟩ (c_X6_anew l D cc A ad rs x1 x2 μ5 _ h) (cwV 2 hts gX6_begin_X6_anew rfl rfl rfl (by decide +kernel) ⟨Nat.le_of_ble_eq_true rfl, Nat.le_of_ble_eq_true rfl⟩) kM_0 rfl hK hN hP hD rfl hl.1 rfl (Nat.le_of_ble_eq_true rfl) dX6_begin_42 ⟨Nat.zero_le _, Nat.zero_le _⟩) hS (fun μ11 H locs h hP hD hS => ?_)
      refine lv_aload_n hx hb dX6_begin_45 rfl (lv_at hl 1 rfl) ?_
      refine lv_iconst (v := 0) hx hb dX6_begin_46 (by decide) ?_
      refine zw_put (C := RX6) (T := TX6) (M := 22) hx hb hts hi_X6 tyX6 tyX6_ok nmX6 hown hK hP hD hS kM_0 rfl 4 (by decide) hw1 rfl rfl (Nat.le_of_ble_eq_true rfl) rfl dX6_begin_47 (fun μ12 H locs eμ12 hP hD hS => ?_)
      have h := h μ12 eμ12
      refine lv_iload_n hx hb dX6_begin_50 rfl (lv_at hl 0 rfl) ?_
      exact W.iret (v := y9) hx hb hr (fun t ht hW => ⟨⟨y9, μ12, rfl, h, PW.to hK hN hP hD t ht hW⟩, hS.F ht⟩) hS.2.2 dX6_begin_51
    · have h := h.2 c6
      refine lv_bipush (v := (-2)) hx hb dX6_begin_19 (by decide) ?_
      exact W.iret (v := (-2)) hx hb hr (fun t ht hW => ⟨⟨(-2), μ5, rfl, h, PW.to hK hN hP hD t ht hW⟩, hS.F ht⟩) hS.2.2 dX6_begin_21
set_option maxHeartbeats 4000000 in
set_option maxRecDepth 100000 in
theorem c_X6_puts (l : Launch) (D : va_G) (cc : Nat → ClassId) (A : Nat → Prop) (ad : Nat → Nat) (rs : va_W) (x1 : Int32) (x2 : Int32) (μ : Mem) (K : Int32 → Mem → Prop) (h : f_X6_puts x1 x2 μ K) : Met l yX6_puts wsX6_puts ({ frames := 0, cells := 0, slots := 0, locals := 0 }) (va_Pc [.ref (ad 0), .int x1, .int x2] (PW shM 18 D cc A ad rs μ)) (va_Qi K (PW shM 18 D cc A ad rs) A) 0 0 A := by
  refine Met.ofW (cc := cX6_puts) (maxL := 4) (ret := (some .int)) (by decide) rfl ?_
  intro p e s m args below meth c s₁ BB hml hv
  obtain ⟨rfl, hP, hK, hD, hN⟩ := hv
  have hx := BB.exec
  have hb := BB.bytes
  have hr := BB.returns
  have hts := atoms_spec (ws := wsX6_puts) BB.pre
  have hown : s.vm.findClass RX6 = some m.cls := findClass_of_methodNamed BB.named
  have hlocks := BB.notSynchronized
  have hi_X6 : ∀ w ∈ u_ws RX6 TX6 22, w ∈ wsX6_puts := by decide +kernel
  have hw0 := hts (.fieldLink RX6 7 "FeatureClashesModel" "v" "[I") (by decide +kernel)
  have hS : va_S A s.heap s.heap [] := va_S.rf
  have hl := lv_entry ([.ref (ad 0), .int x1, .int x2]) (n := 4) (Nat.le_of_ble_eq_true rfl)
  rw [lg_entry_eq]
  generalize (lg_sl ([.ref (ad 0), .int x1, .int x2]) ++ List.replicate (4 - (lg_sl ([.ref (ad 0), .int x1, .int x2])).length) Slot.unset).toArray = ls at hl ⊢
  have hl : lv_has ls 4 [(0, .ref (ad 0)), (1, .int x1), (2, .int x2)] := hl
  unfold f_X6_puts at h
  refine lv_aload_n hx hb dX6_puts_0 rfl (lv_at hl 0 rfl) ?_
  refine zw_get (C := RX6) (T := TX6) (M := 22) (v := .ref (ad 1)) hx hb hts hi_X6 hown hK hP kM_0 rfl 0 (by decide) hw0 rfl dX6_puts_1 ?_
  refine lv_iload_n hx hb dX6_puts_4 rfl (lv_at hl 1 rfl) ?_
  obtain ⟨hi1, h⟩ := h
  refine zw_iald hx hb hK hP kM_1 hi1 dX6_puts_5 ?_
  refine lv_topi (fun y2 ey2 => ?_)
  have h := h y2 ey2
  refine lv_istore_n (lv' := [(3, .int y2), (0, .ref (ad 0)), (1, .int x1), (2, .int x2)]) hx hb dX6_puts_6 rfl hl (by decide) rfl (fun ls hl => ?_)
  refine lv_aload_n hx hb dX6_puts_7 rfl (lv_at hl 1 rfl) ?_
  refine zw_get (C := RX6) (T := TX6) (M := 22) (v := .ref (ad 1)) hx hb hts hi_X6 hown hK hP kM_0 rfl 0 (by decide) hw0 rfl dX6_puts_8 ?_
  refine lv_iload_n hx hb dX6_puts_11 rfl (lv_at hl 2 rfl) ?_
  refine lv_iload_n hx hb dX6_puts_12 rfl (lv_at hl 3 rfl) ?_
  obtain ⟨hi3, h⟩ := h
  refine zw_iast hx hb hK hP hD hS kM_1 hi3 dX6_puts_13 (fun μ4 H locs eμ4 hP hD hS => ?_)
  have h := h μ4 eμ4
  refine lv_iload_n hx hb dX6_puts_14 rfl (lv_at hl 0 rfl) ?_
  refine lv_if_ge (tgt := 23) hx hb dX6_puts_15 (by decide) (fun c5 => ?_) (fun c5 => ?_)
  · have h := h.1 c5
    refine lv_iload_n hx hb dX6_puts_23 rfl (lv_at hl 0 rfl) ?_
    exact W.iret (v := y2) hx hb hr (fun t ht hW => ⟨⟨y2, μ4, rfl, h, PW.to hK hN hP hD t ht hW⟩, hS.F ht⟩) hS.2.2 dX6_puts_24
  · have h := h.2 c5
    refine lv_bipush (v := (-5)) hx hb dX6_puts_18 (by decide) ?_
    refine lv_goto (tgt := 24) hx hb dX6_puts_20 (by decide) ?_
    exact W.iret (v := (-5)) hx hb hr (fun t ht hW => ⟨⟨(-5), μ4, rfl, h, PW.to hK hN hP hD t ht hW⟩, hS.F ht⟩) hS.2.2 dX6_puts_24
set_option maxHeartbeats 4000000 in
set_option maxRecDepth 100000 in
theorem c_X6_setArrow (l : Launch) (D : va_G) (cc : Nat → ClassId) (A : Nat → Prop) (ad : Nat → Nat) (rs : va_W) (x1 : Int32) (x2 : Int32) (x3 : Int32) (x4 : Int32) (μ : Mem) (K : Int32 → Mem → Prop) (h : f_X6_setArrow x1 x2 x3 x4 μ K) : Met l yX6_setArrow wsX6_setArrow ({ frames := 2, cells := 0, slots := 0, locals := 43 }) (va_Pc [.ref (ad 0), .int x1, .int x2, .int x3, .int x4] (PW shM 18 D cc A ad rs μ)) (va_Qi K (PW shM 18 D cc A ad rs) A) 0 0 A := by
  refine Met.ofW (cc := cX6_setArrow) (maxL := 5) (ret := (some .int)) (by decide) rfl ?_
  intro p e s m args below meth c s₁ BB hml hv
  obtain ⟨rfl, hP, hK, hD, hN⟩ := hv
  have hx := BB.exec
  have hb := BB.bytes
  have hr := BB.returns
  have hts := atoms_spec (ws := wsX6_setArrow) BB.pre
  have hown : s.vm.findClass RX6 = some m.cls := findClass_of_methodNamed BB.named
  have hlocks := BB.notSynchronized
  have hS : va_S A s.heap s.heap [] := va_S.rf
  have hl := lv_entry ([.ref (ad 0), .int x1, .int x2, .int x3, .int x4]) (n := 5) (Nat.le_of_ble_eq_true rfl)
  rw [lg_entry_eq]
  generalize (lg_sl ([.ref (ad 0), .int x1, .int x2, .int x3, .int x4]) ++ List.replicate (5 - (lg_sl ([.ref (ad 0), .int x1, .int x2, .int x3, .int x4])).length) Slot.unset).toArray = ls at hl ⊢
  have hl : lv_has ls 5 [(0, .ref (ad 0)), (1, .int x1), (2, .int x2), (3, .int x3), (4, .int x4)] := hl
  unfold f_X6_setArrow at h
  refine lv_aload_n hx hb dX6_setArrow_0 rfl (lv_at hl 0 rfl) ?_
  refine lv_iload_n hx hb dX6_setArrow_1 rfl (lv_at hl 1 rfl) ?_
  refine zc_i (zc_runV (As := [.int x1]) (rest := []) ⟨hx, hb, hml, hown, hts⟩ (c_X6_isState l D cc A ad rs x1 μ _ h) (cwV 1 hts gX6_setArrow_X6_isState rfl rfl rfl (by decide +kernel) ⟨Nat.le_of_ble_eq_true rfl, Nat.le_of_ble_eq_true rfl⟩) kM_0 rfl hK hN hP hD rfl hl.1 rfl (Nat.le_of_ble_eq_true rfl) dX6_setArrow_2 ⟨Nat.zero_le _, Nat.zero_le _⟩) hS (fun r1 μ2 H locs h hP hD hS => ?_)
  refine lv_if_eq (tgt := 24) hx hb dX6_setArrow_5 (by decide) (fun c3 => ?_) (fun c3 => ?_)
  · have h := h.1 c3
    refine lv_iconst (v := (-1)) hx hb dX6_setArrow_24 (by decide) ?_
    exact W.iret (v := (-1)) hx hb hr (fun t ht hW => ⟨⟨(-1), μ2, rfl, h, PW.to hK hN hP hD t ht hW⟩, hS.F ht⟩) hS.2.2 dX6_setArrow_25
  · have h := h.2 c3
    refine lv_aload_n hx hb dX6_setArrow_8 rfl (lv_at hl 0 rfl) ?_
    refine lv_iload_n hx hb dX6_setArrow_9 rfl (lv_at hl 2 rfl) ?_
    refine zc_i (zc_runV (As := [.int x2]) (rest := []) ⟨hx, hb, hml, hown, hts⟩ (c_X6_isLetter l D cc A ad rs x2 μ2 _ h) (cwV 1 hts gX6_setArrow_X6_isLetter rfl rfl rfl (by decide +kernel) ⟨Nat.le_of_ble_eq_true rfl, Nat.le_of_ble_eq_true rfl⟩) kM_0 rfl hK hN hP hD rfl hl.1 rfl (Nat.le_of_ble_eq_true rfl) dX6_setArrow_10 ⟨Nat.zero_le _, Nat.zero_le _⟩) hS (fun r4 μ5 H locs h hP hD hS => ?_)
    refine lv_if_eq (tgt := 24) hx hb dX6_setArrow_13 (by decide) (fun c6 => ?_) (fun c6 => ?_)
    · have h := h.1 c6
      refine lv_iconst (v := (-1)) hx hb dX6_setArrow_24 (by decide) ?_
      exact W.iret (v := (-1)) hx hb hr (fun t ht hW => ⟨⟨(-1), μ5, rfl, h, PW.to hK hN hP hD t ht hW⟩, hS.F ht⟩) hS.2.2 dX6_setArrow_25
    · have h := h.2 c6
      refine lv_aload_n hx hb dX6_setArrow_16 rfl (lv_at hl 0 rfl) ?_
      refine lv_iload_n hx hb dX6_setArrow_17 rfl (lv_at hl 3 rfl) ?_
      refine zc_i (zc_runV (As := [.int x3]) (rest := []) ⟨hx, hb, hml, hown, hts⟩ (c_X6_isState l D cc A ad rs x3 μ5 _ h) (cwV 1 hts gX6_setArrow_X6_isState rfl rfl rfl (by decide +kernel) ⟨Nat.le_of_ble_eq_true rfl, Nat.le_of_ble_eq_true rfl⟩) kM_0 rfl hK hN hP hD rfl hl.1 rfl (Nat.le_of_ble_eq_true rfl) dX6_setArrow_18 ⟨Nat.zero_le _, Nat.zero_le _⟩) hS (fun r7 μ8 H locs h hP hD hS => ?_)
      refine lv_if_ne (tgt := 26) hx hb dX6_setArrow_21 (by decide) (fun c9 => ?_) (fun c9 => ?_)
      · have h := h.1 c9
        refine lv_iload hx hb dX6_setArrow_26 (lv_at hl 4 rfl) ?_
        refine lv_iconst (v := 0) hx hb dX6_setArrow_28 (by decide) ?_
        refine lv_bipush (v := 9) hx hb dX6_setArrow_29 (by decide) ?_
        refine zc_i (zc_runS (As := [.int x4, .int 0, .int 9]) (rest := []) ⟨hx, hb, hml, hown, hts⟩ (c_X6_in l D cc A ad rs x4 0 9 μ8 _ h) (va_cwS 3 hts gX6_setArrow_X6_in rfl rfl rfl (by decide +kernel) ⟨Nat.le_of_ble_eq_true rfl, Nat.le_of_ble_eq_true rfl⟩) hK hN hP hD rfl hl.1 rfl (Nat.le_of_ble_eq_true rfl) dX6_setArrow_31 ⟨Nat.zero_le _, Nat.zero_le _⟩) hS (fun r10 μ11 H locs h hP hD hS => ?_)
        refine lv_if_eq (tgt := 58) hx hb dX6_setArrow_34 (by decide) (fun c12 => ?_) (fun c12 => ?_)
        · have h := h.1 c12
          refine lv_bipush (v := (-2)) hx hb dX6_setArrow_58 (by decide) ?_
          exact W.iret (v := (-2)) hx hb hr (fun t ht hW => ⟨⟨(-2), μ11, rfl, h, PW.to hK hN hP hD t ht hW⟩, hS.F ht⟩) hS.2.2 dX6_setArrow_60
        · have h := h.2 c12
          refine lv_aload_n hx hb dX6_setArrow_37 rfl (lv_at hl 0 rfl) ?_
          refine lv_iconst (v := 2) hx hb dX6_setArrow_38 (by decide) ?_
          refine lv_iconst (v := 4) hx hb dX6_setArrow_39 (by decide) ?_
          refine lv_iload_n hx hb dX6_setArrow_40 rfl (lv_at hl 1 rfl) ?_
          refine lv_imul hx hb dX6_setArrow_41 ?_
          refine lv_iadd hx hb dX6_setArrow_42 ?_
          refine lv_iload_n hx hb dX6_setArrow_43 rfl (lv_at hl 2 rfl) ?_
          refine lv_iadd hx hb dX6_setArrow_44 ?_
          refine lv_bipush (v := 10) hx hb dX6_setArrow_45 (by decide) ?_
          refine lv_iload_n hx hb dX6_setArrow_47 rfl (lv_at hl 3 rfl) ?_
          refine lv_imul hx hb dX6_setArrow_48 ?_
          refine lv_iload hx hb dX6_setArrow_49 (lv_at hl 4 rfl) ?_
          refine lv_iadd hx hb dX6_setArrow_51 ?_
          refine zc_i (zc_runV (As := [.int ((2 + (4 * x1)) + x2), .int ((10 * x3) + x4)]) (rest := []) ⟨hx, hb, hml, hown, hts⟩ (c_X6_puts l D cc A ad rs ((2 + (4 * x1)) + x2) ((10 * x3) + x4) μ11 _ h) (cwV 2 hts gX6_setArrow_X6_puts rfl rfl rfl (by decide +kernel) ⟨Nat.le_of_ble_eq_true rfl, Nat.le_of_ble_eq_true rfl⟩) kM_0 rfl hK hN hP hD rfl hl.1 rfl (Nat.le_of_ble_eq_true rfl) dX6_setArrow_52 ⟨Nat.zero_le _, Nat.zero_le _⟩) hS (fun r13 μ14 H locs h hP hD hS => ?_)
          refine lv_goto (tgt := 60) hx hb dX6_setArrow_55 (by decide) ?_
          exact W.iret (v := r13) hx hb hr (fun t ht hW => ⟨⟨r13, μ14, rfl, h, PW.to hK hN hP hD t ht hW⟩, hS.F ht⟩) hS.2.2 dX6_setArrow_60
      · have h := h.2 c9
        refine lv_iconst (v := (-1)) hx hb dX6_setArrow_24 (by decide) ?_
        exact W.iret (v := (-1)) hx hb hr (fun t ht hW => ⟨⟨(-1), μ8, rfl, h, PW.to hK hN hP hD t ht hW⟩, hS.F ht⟩) hS.2.2 dX6_setArrow_25
set_option maxHeartbeats 4000000 in
set_option maxRecDepth 100000 in
theorem c_X6_removeArrow (l : Launch) (D : va_G) (cc : Nat → ClassId) (A : Nat → Prop) (ad : Nat → Nat) (rs : va_W) (x1 : Int32) (x2 : Int32) (μ : Mem) (K : Int32 → Mem → Prop) (h : f_X6_removeArrow x1 x2 μ K) : Met l yX6_removeArrow wsX6_removeArrow ({ frames := 2, cells := 0, slots := 0, locals := 43 }) (va_Pc [.ref (ad 0), .int x1, .int x2] (PW shM 18 D cc A ad rs μ)) (va_Qi K (PW shM 18 D cc A ad rs) A) 0 0 A := by
  refine Met.ofW (cc := cX6_removeArrow) (maxL := 3) (ret := (some .int)) (by decide) rfl ?_
  intro p e s m args below meth c s₁ BB hml hv
  obtain ⟨rfl, hP, hK, hD, hN⟩ := hv
  have hx := BB.exec
  have hb := BB.bytes
  have hr := BB.returns
  have hts := atoms_spec (ws := wsX6_removeArrow) BB.pre
  have hown : s.vm.findClass RX6 = some m.cls := findClass_of_methodNamed BB.named
  have hlocks := BB.notSynchronized
  have hS : va_S A s.heap s.heap [] := va_S.rf
  have hl := lv_entry ([.ref (ad 0), .int x1, .int x2]) (n := 3) (Nat.le_of_ble_eq_true rfl)
  rw [lg_entry_eq]
  generalize (lg_sl ([.ref (ad 0), .int x1, .int x2]) ++ List.replicate (3 - (lg_sl ([.ref (ad 0), .int x1, .int x2])).length) Slot.unset).toArray = ls at hl ⊢
  have hl : lv_has ls 3 [(0, .ref (ad 0)), (1, .int x1), (2, .int x2)] := hl
  unfold f_X6_removeArrow at h
  refine lv_aload_n hx hb dX6_removeArrow_0 rfl (lv_at hl 0 rfl) ?_
  refine lv_iload_n hx hb dX6_removeArrow_1 rfl (lv_at hl 1 rfl) ?_
  refine zc_i (zc_runV (As := [.int x1]) (rest := []) ⟨hx, hb, hml, hown, hts⟩ (c_X6_isState l D cc A ad rs x1 μ _ h) (cwV 1 hts gX6_removeArrow_X6_isState rfl rfl rfl (by decide +kernel) ⟨Nat.le_of_ble_eq_true rfl, Nat.le_of_ble_eq_true rfl⟩) kM_0 rfl hK hN hP hD rfl hl.1 rfl (Nat.le_of_ble_eq_true rfl) dX6_removeArrow_2 ⟨Nat.zero_le _, Nat.zero_le _⟩) hS (fun r1 μ2 H locs h hP hD hS => ?_)
  refine lv_if_eq (tgt := 16) hx hb dX6_removeArrow_5 (by decide) (fun c3 => ?_) (fun c3 => ?_)
  · have h := h.1 c3
    refine lv_iconst (v := (-1)) hx hb dX6_removeArrow_16 (by decide) ?_
    exact W.iret (v := (-1)) hx hb hr (fun t ht hW => ⟨⟨(-1), μ2, rfl, h, PW.to hK hN hP hD t ht hW⟩, hS.F ht⟩) hS.2.2 dX6_removeArrow_17
  · have h := h.2 c3
    refine lv_aload_n hx hb dX6_removeArrow_8 rfl (lv_at hl 0 rfl) ?_
    refine lv_iload_n hx hb dX6_removeArrow_9 rfl (lv_at hl 2 rfl) ?_
    refine zc_i (zc_runV (As := [.int x2]) (rest := []) ⟨hx, hb, hml, hown, hts⟩ (c_X6_isLetter l D cc A ad rs x2 μ2 _ h) (cwV 1 hts gX6_removeArrow_X6_isLetter rfl rfl rfl (by decide +kernel) ⟨Nat.le_of_ble_eq_true rfl, Nat.le_of_ble_eq_true rfl⟩) kM_0 rfl hK hN hP hD rfl hl.1 rfl (Nat.le_of_ble_eq_true rfl) dX6_removeArrow_10 ⟨Nat.zero_le _, Nat.zero_le _⟩) hS (fun r4 μ5 H locs h hP hD hS => ?_)
    refine lv_if_ne (tgt := 18) hx hb dX6_removeArrow_13 (by decide) (fun c6 => ?_) (fun c6 => ?_)
    · have h := h.1 c6
      refine lv_aload_n hx hb dX6_removeArrow_18 rfl (lv_at hl 0 rfl) ?_
      refine lv_iconst (v := 2) hx hb dX6_removeArrow_19 (by decide) ?_
      refine lv_iconst (v := 4) hx hb dX6_removeArrow_20 (by decide) ?_
      refine lv_iload_n hx hb dX6_removeArrow_21 rfl (lv_at hl 1 rfl) ?_
      refine lv_imul hx hb dX6_removeArrow_22 ?_
      refine lv_iadd hx hb dX6_removeArrow_23 ?_
      refine lv_iload_n hx hb dX6_removeArrow_24 rfl (lv_at hl 2 rfl) ?_
      refine lv_iadd hx hb dX6_removeArrow_25 ?_
      refine lv_iconst (v := (-1)) hx hb dX6_removeArrow_26 (by decide) ?_
      refine zc_i (zc_runV (As := [.int ((2 + (4 * x1)) + x2), .int (-1)]) (rest := []) ⟨hx, hb, hml, hown, hts⟩ (c_X6_puts l D cc A ad rs ((2 + (4 * x1)) + x2) (-1) μ5 _ h) (cwV 2 hts gX6_removeArrow_X6_puts rfl rfl rfl (by decide +kernel) ⟨Nat.le_of_ble_eq_true rfl, Nat.le_of_ble_eq_true rfl⟩) kM_0 rfl hK hN hP hD rfl hl.1 rfl (Nat.le_of_ble_eq_true rfl) dX6_removeArrow_27 ⟨Nat.zero_le _, Nat.zero_le _⟩) hS (fun r7 μ8 H locs h hP hD hS => ?_)
      exact W.iret (v := r7) hx hb hr (fun t ht hW => ⟨⟨r7, μ8, rfl, h, PW.to hK hN hP hD t ht hW⟩, hS.F ht⟩) hS.2.2 dX6_removeArrow_30
    · have h := h.2 c6
      refine lv_iconst (v := (-1)) hx hb dX6_removeArrow_16 (by decide) ?_
      exact W.iret (v := (-1)) hx hb hr (fun t ht hW => ⟨⟨(-1), μ5, rfl, h, PW.to hK hN hP hD t ht hW⟩, hS.F ht⟩) hS.2.2 dX6_removeArrow_17
set_option maxHeartbeats 4000000 in
set_option maxRecDepth 100000 in
theorem c_X6_clears (l : Launch) (D : va_G) (cc : Nat → ClassId) (A : Nat → Prop) (ad : Nat → Nat) (rs : va_W) (x1 : Int32) (μ : Mem) (K : Mem → Prop) (h : f_X6_clears x1 μ K) : Met l yX6_clears wsX6_clears ({ frames := 1, cells := 0, slots := 0, locals := 21 }) (va_Pc [.ref (ad 0), .int x1] (PW shM 18 D cc A ad rs μ)) (va_Qv K (PW shM 18 D cc A ad rs) A) 0 0 A := by
  refine Met.ofW (cc := cX6_clears) (maxL := 3) (ret := none) (by decide) rfl ?_
  intro p e s m args below meth c s₁ BB hml hv
  obtain ⟨rfl, hP, hK, hD, hN⟩ := hv
  have hx := BB.exec
  have hb := BB.bytes
  have hr := BB.returns
  have hts := atoms_spec (ws := wsX6_clears) BB.pre
  have hown : s.vm.findClass RX6 = some m.cls := findClass_of_methodNamed BB.named
  have hlocks := BB.notSynchronized
  have hi_X6 : ∀ w ∈ u_ws RX6 TX6 22, w ∈ wsX6_clears := by decide +kernel
  have hw0 := hts (.fieldLink RX6 7 "FeatureClashesModel" "v" "[I") (by decide +kernel)
  have hS : va_S A s.heap s.heap [] := va_S.rf
  have hl := lv_entry ([.ref (ad 0), .int x1]) (n := 3) (Nat.le_of_ble_eq_true rfl)
  rw [lg_entry_eq]
  generalize (lg_sl ([.ref (ad 0), .int x1]) ++ List.replicate (3 - (lg_sl ([.ref (ad 0), .int x1])).length) Slot.unset).toArray = ls at hl ⊢
  have hl : lv_has ls 3 [(0, .ref (ad 0)), (1, .int x1)] := hl
  unfold f_X6_clears at h
  refine (fun h => ?main) (h (fun b1 b2 μ => ∀ (H1 : Heap) (locs : List Loc) (ls : Array Slot), va_P D vwCl (wW shM 18 cc ad μ ++ rs) H1 → va_D A (wW shM 18 cc ad μ ++ rs) → va_S A s.heap H1 locs → lv_has ls 3 [(0, .ref (ad 0)), (1, .int b1), (2, .int b2)] → W p l e (headSpec wsX6_clears ({ frames := 1, cells := 0, slots := 0, locals := 21 })).room s m ([.ref (ad 0), .int x1] : List Value).toArray below meth c H1 locs 0 0 (MQ below (va_Qv K (PW shM 18 D cc A ad rs) A) ([.ref (ad 0), .int x1] : List Value).toArray s 0 0 A) (F0 m 2 ls ([]))) ?b2)
  case main =>
      refine lv_iconst (v := 0) hx hb dX6_clears_0 (by decide) ?_
      refine lv_istore_n (lv' := [(2, .int 0), (0, .ref (ad 0)), (1, .int x1)]) hx hb dX6_clears_1 rfl hl (by decide) rfl (fun ls hl => ?_)
      exact h _ _ _ hP hD hS (lv_sub hl [1, 2, 0] rfl)
  case b2 =>
    intro b1 b2 μ h H locs ls hP hD hS hl
    refine lv_iload_n hx hb dX6_clears_2 rfl (lv_at hl 2 rfl) ?_
    refine lv_bipush (v := 32) hx hb dX6_clears_3 (by decide) ?_
    refine lv_icmp_ge (tgt := 27) hx hb dX6_clears_5 (by decide) (fun c1 => ?_) (fun c1 => ?_)
    · have h := h.1 c1
      exact W.vret hx hb hr (fun t ht hW => ⟨⟨μ, rfl, h, PW.to hK hN hP hD t ht hW⟩, hS.F ht⟩) hS.2.2 dX6_clears_27
    · have h := h.2 c1
      refine lv_aload_n hx hb dX6_clears_8 rfl (lv_at hl 0 rfl) ?_
      refine zw_get (C := RX6) (T := TX6) (M := 22) (v := .ref (ad 1)) hx hb hts hi_X6 hown hK hP kM_0 rfl 0 (by decide) hw0 rfl dX6_clears_9 ?_
      refine lv_iload_n hx hb dX6_clears_12 rfl (lv_at hl 1 rfl) ?_
      refine lv_iconst (v := 1) hx hb dX6_clears_13 (by decide) ?_
      refine lv_iload_n hx hb dX6_clears_14 rfl (lv_at hl 2 rfl) ?_
      refine lv_iadd hx hb dX6_clears_15 ?_
      refine zc_i (zc_runS (As := [.int b1, .int (1 + b2)]) (rest := [.ref (ad 1)]) ⟨hx, hb, hml, hown, hts⟩ (c_X6_at l D cc A ad rs b1 (1 + b2) μ _ h) (va_cwS 2 hts gX6_clears_X6_at rfl rfl rfl (by decide +kernel) ⟨Nat.le_of_ble_eq_true rfl, Nat.le_of_ble_eq_true rfl⟩) hK hN hP hD rfl hl.1 rfl (Nat.le_of_ble_eq_true rfl) dX6_clears_16 ⟨Nat.zero_le _, Nat.zero_le _⟩) hS (fun r2 μ3 H locs h hP hD hS => ?_)
      refine lv_iconst (v := (-1)) hx hb dX6_clears_19 (by decide) ?_
      obtain ⟨hi4, h⟩ := h
      refine zw_iast hx hb hK hP hD hS kM_1 hi4 dX6_clears_20 (fun μ5 H locs eμ5 hP hD hS => ?_)
      have h := h μ5 eμ5
      obtain ⟨y6, ey6⟩ : ∃ y : Int32, y = b2 + 1 := ⟨_, rfl⟩
      have h := h y6 ey6
      refine lv_iinc (v := y6) (lv' := [(2, .int y6), (0, .ref (ad 0)), (1, .int b1)]) hx hb dX6_clears_21 hl (k := 2) rfl (by rw [ey6]; rfl) (by decide) rfl (fun ls hl => ?_)
      refine lv_goto (tgt := 2) hx hb dX6_clears_24 (by decide) ?_
      exact h _ _ _ hP hD hS (lv_sub hl [1, 2, 0] rfl)
