set_option maxHeartbeats 4000000 in
set_option maxRecDepth 100000 in
theorem c_X6_isOpen (l : Launch) (D : va_G) (cc : Nat → ClassId) (A : Nat → Prop) (ad : Nat → Nat) (rs : va_W) (x1 : Int32) (x2 : Int32) (μ : Mem) (K : Int32 → Mem → Prop) (h : f_X6_isOpen x1 x2 μ K) : Met l yX6_isOpen wsX6_isOpen ({ frames := 3, cells := 0, slots := 0, locals := 73 }) (va_Pc [.ref (ad 0), .int x1, .int x2] (PW shM 18 D cc A ad rs μ)) (va_Qi K (PW shM 18 D cc A ad rs) A) 0 0 A := by
  refine Met.ofW (cc := cX6_isOpen) (maxL := 3) (ret := (some .boolean)) (by decide) rfl ?_
  intro p e s m args below meth c s₁ BB hml hv
  obtain ⟨rfl, hP, hK, hD, hN⟩ := hv
  have hx := BB.exec
  have hb := BB.bytes
  have hr := BB.returns
  have hts := atoms_spec (ws := wsX6_isOpen) BB.pre
  have hown : s.vm.findClass RX6 = some m.cls := findClass_of_methodNamed BB.named
  have hlocks := BB.notSynchronized
  have hS : va_S A s.heap s.heap [] := va_S.rf
  have hl := lv_entry ([.ref (ad 0), .int x1, .int x2]) (n := 3) (Nat.le_of_ble_eq_true rfl)
  rw [lg_entry_eq]
  generalize (lg_sl ([.ref (ad 0), .int x1, .int x2]) ++ List.replicate (3 - (lg_sl ([.ref (ad 0), .int x1, .int x2])).length) Slot.unset).toArray = ls at hl ⊢
  have hl : lv_has ls 3 [(0, .ref (ad 0)), (1, .int x1), (2, .int x2)] := hl
  unfold f_X6_isOpen at h
  refine lv_aload_n hx hb dX6_isOpen_0 rfl (lv_at hl 0 rfl) ?_
  refine lv_iload_n hx hb dX6_isOpen_1 rfl (lv_at hl 1 rfl) ?_
  refine zc_i (zc_runV (As := [.int x1]) (rest := []) ⟨hx, hb, hml, hown, hts⟩ (c_X6_isOn l D cc A ad rs x1 μ _ h) (cwV 1 hts gX6_isOpen_X6_isOn rfl rfl rfl (by decide +kernel) ⟨Nat.le_of_ble_eq_true rfl, Nat.le_of_ble_eq_true rfl⟩) kM_0 rfl hK hN hP hD rfl hl.1 rfl (Nat.le_of_ble_eq_true rfl) dX6_isOpen_2 ⟨Nat.zero_le _, Nat.zero_le _⟩) hS (fun r1 μ2 H locs h hP hD hS => ?_)
  refine lv_if_eq (tgt := 47) hx hb dX6_isOpen_5 (by decide) (fun c3 => ?_) (fun c3 => ?_)
  · have h := h.1 c3
    refine lv_iconst (v := 0) hx hb dX6_isOpen_47 (by decide) ?_
    exact W.zret (ty := .boolean) (v := 0) hx hb hr rfl (fun t ht hW => ⟨⟨0, μ2, rfl, h, PW.to hK hN hP hD t ht hW⟩, hS.F ht⟩) hS.2.2 dX6_isOpen_48
  · have h := h.2 c3
    refine lv_aload_n hx hb dX6_isOpen_8 rfl (lv_at hl 0 rfl) ?_
    refine lv_iload_n hx hb dX6_isOpen_9 rfl (lv_at hl 2 rfl) ?_
    refine zc_i (zc_runV (As := [.int x2]) (rest := []) ⟨hx, hb, hml, hown, hts⟩ (c_X6_isOn l D cc A ad rs x2 μ2 _ h) (cwV 1 hts gX6_isOpen_X6_isOn rfl rfl rfl (by decide +kernel) ⟨Nat.le_of_ble_eq_true rfl, Nat.le_of_ble_eq_true rfl⟩) kM_0 rfl hK hN hP hD rfl hl.1 rfl (Nat.le_of_ble_eq_true rfl) dX6_isOpen_10 ⟨Nat.zero_le _, Nat.zero_le _⟩) hS (fun r4 μ5 H locs h hP hD hS => ?_)
    refine lv_if_eq (tgt := 47) hx hb dX6_isOpen_13 (by decide) (fun c6 => ?_) (fun c6 => ?_)
    · have h := h.1 c6
      refine lv_iconst (v := 0) hx hb dX6_isOpen_47 (by decide) ?_
      exact W.zret (ty := .boolean) (v := 0) hx hb hr rfl (fun t ht hW => ⟨⟨0, μ5, rfl, h, PW.to hK hN hP hD t ht hW⟩, hS.F ht⟩) hS.2.2 dX6_isOpen_48
    · have h := h.2 c6
      refine lv_aload_n hx hb dX6_isOpen_16 rfl (lv_at hl 0 rfl) ?_
      refine lv_iload_n hx hb dX6_isOpen_17 rfl (lv_at hl 1 rfl) ?_
      refine lv_iload_n hx hb dX6_isOpen_18 rfl (lv_at hl 2 rfl) ?_
      refine zc_i (zc_runV (As := [.int x1, .int x2]) (rest := []) ⟨hx, hb, hml, hown, hts⟩ (c_X6_isAhead l D cc A ad rs x1 x2 μ5 _ h) (cwV 2 hts gX6_isOpen_X6_isAhead rfl rfl rfl (by decide +kernel) ⟨Nat.le_of_ble_eq_true rfl, Nat.le_of_ble_eq_true rfl⟩) kM_0 rfl hK hN hP hD rfl hl.1 rfl (Nat.le_of_ble_eq_true rfl) dX6_isOpen_19 ⟨Nat.zero_le _, Nat.zero_le _⟩) hS (fun r7 μ8 H locs h hP hD hS => ?_)
      refine lv_if_ne (tgt := 47) hx hb dX6_isOpen_22 (by decide) (fun c9 => ?_) (fun c9 => ?_)
      · have h := h.1 c9
        refine lv_iconst (v := 0) hx hb dX6_isOpen_47 (by decide) ?_
        exact W.zret (ty := .boolean) (v := 0) hx hb hr rfl (fun t ht hW => ⟨⟨0, μ8, rfl, h, PW.to hK hN hP hD t ht hW⟩, hS.F ht⟩) hS.2.2 dX6_isOpen_48
      · have h := h.2 c9
        refine lv_aload_n hx hb dX6_isOpen_25 rfl (lv_at hl 0 rfl) ?_
        refine lv_iload_n hx hb dX6_isOpen_26 rfl (lv_at hl 2 rfl) ?_
        refine lv_iload_n hx hb dX6_isOpen_27 rfl (lv_at hl 1 rfl) ?_
        refine zc_i (zc_runV (As := [.int x2, .int x1]) (rest := []) ⟨hx, hb, hml, hown, hts⟩ (c_X6_isAhead l D cc A ad rs x2 x1 μ8 _ h) (cwV 2 hts gX6_isOpen_X6_isAhead rfl rfl rfl (by decide +kernel) ⟨Nat.le_of_ble_eq_true rfl, Nat.le_of_ble_eq_true rfl⟩) kM_0 rfl hK hN hP hD rfl hl.1 rfl (Nat.le_of_ble_eq_true rfl) dX6_isOpen_28 ⟨Nat.zero_le _, Nat.zero_le _⟩) hS (fun r10 μ11 H locs h hP hD hS => ?_)
        refine lv_if_ne (tgt := 47) hx hb dX6_isOpen_31 (by decide) (fun c12 => ?_) (fun c12 => ?_)
        · have h := h.1 c12
          refine lv_iconst (v := 0) hx hb dX6_isOpen_47 (by decide) ?_
          exact W.zret (ty := .boolean) (v := 0) hx hb hr rfl (fun t ht hW => ⟨⟨0, μ11, rfl, h, PW.to hK hN hP hD t ht hW⟩, hS.F ht⟩) hS.2.2 dX6_isOpen_48
        · have h := h.2 c12
          refine lv_aload_n hx hb dX6_isOpen_34 rfl (lv_at hl 0 rfl) ?_
          refine lv_iload_n hx hb dX6_isOpen_35 rfl (lv_at hl 1 rfl) ?_
          refine lv_iload_n hx hb dX6_isOpen_36 rfl (lv_at hl 2 rfl) ?_
          refine zc_i (zc_runV (As := [.int x1, .int x2]) (rest := []) ⟨hx, hb, hml, hown, hts⟩ (c_X6_findWitness l D cc A ad rs x1 x2 μ11 _ h) (cwV 2 hts gX6_isOpen_X6_findWitness rfl rfl rfl (by decide +kernel) ⟨Nat.le_of_ble_eq_true rfl, Nat.le_of_ble_eq_true rfl⟩) kM_0 rfl hK hN hP hD rfl hl.1 rfl (Nat.le_of_ble_eq_true rfl) dX6_isOpen_37 ⟨Nat.zero_le _, Nat.zero_le _⟩) hS (fun r13 μ14 H locs h hP hD hS => ?_)
          refine lv_if_le (tgt := 47) hx hb dX6_isOpen_40 (by decide) (fun c15 => ?_) (fun c15 => ?_)
          · have h := h.1 c15
            refine lv_iconst (v := 0) hx hb dX6_isOpen_47 (by decide) ?_
            exact W.zret (ty := .boolean) (v := 0) hx hb hr rfl (fun t ht hW => ⟨⟨0, μ14, rfl, h, PW.to hK hN hP hD t ht hW⟩, hS.F ht⟩) hS.2.2 dX6_isOpen_48
          · have h := h.2 c15
            refine lv_iconst (v := 1) hx hb dX6_isOpen_43 (by decide) ?_
            refine lv_goto (tgt := 48) hx hb dX6_isOpen_44 (by decide) ?_
            exact W.zret (ty := .boolean) (v := 1) hx hb hr rfl (fun t ht hW => ⟨⟨1, μ14, rfl, h, PW.to hK hN hP hD t ht hW⟩, hS.F ht⟩) hS.2.2 dX6_isOpen_48
set_option maxHeartbeats 4000000 in
set_option maxRecDepth 100000 in
theorem c_X6_openNow (l : Launch) (D : va_G) (cc : Nat → ClassId) (A : Nat → Prop) (ad : Nat → Nat) (rs : va_W)  (μ : Mem) (K : Int32 → Mem → Prop) (h : f_X6_openNow  μ K) : Met l yX6_openNow wsX6_openNow ({ frames := 4, cells := 0, slots := 0, locals := 95 }) (va_Pc [.ref (ad 0)] (PW shM 18 D cc A ad rs μ)) (va_Qi K (PW shM 18 D cc A ad rs) A) 0 0 A := by
  refine Met.ofW (cc := cX6_openNow) (maxL := 4) (ret := (some .int)) (by decide) rfl ?_
  intro p e s m args below meth c s₁ BB hml hv
  obtain ⟨rfl, hP, hK, hD, hN⟩ := hv
  have hx := BB.exec
  have hb := BB.bytes
  have hr := BB.returns
  have hts := atoms_spec (ws := wsX6_openNow) BB.pre
  have hown : s.vm.findClass RX6 = some m.cls := findClass_of_methodNamed BB.named
  have hlocks := BB.notSynchronized
  have hi_X6 : ∀ w ∈ u_ws RX6 TX6 22, w ∈ wsX6_openNow := by decide +kernel
  have hw0 := hts (.fieldLink RX6 7 "FeatureClashesModel" "v" "[I") (by decide +kernel)
  have hS : va_S A s.heap s.heap [] := va_S.rf
  have hl := lv_entry ([.ref (ad 0)]) (n := 4) (Nat.le_of_ble_eq_true rfl)
  rw [lg_entry_eq]
  generalize (lg_sl ([.ref (ad 0)]) ++ List.replicate (4 - (lg_sl ([.ref (ad 0)])).length) Slot.unset).toArray = ls at hl ⊢
  have hl : lv_has ls 4 [(0, .ref (ad 0))] := hl
  unfold f_X6_openNow at h
  refine (fun h => ?main) (h (fun b1 b2 μ => ∀ (H1 : Heap) (locs : List Loc) (ls : Array Slot), va_P D vwCl (wW shM 18 cc ad μ ++ rs) H1 → va_D A (wW shM 18 cc ad μ ++ rs) → va_S A s.heap H1 locs → lv_has ls 4 [(0, .ref (ad 0)), (1, .int b1), (2, .int b2)] → W p l e (headSpec wsX6_openNow ({ frames := 4, cells := 0, slots := 0, locals := 95 })).room s m ([.ref (ad 0)] : List Value).toArray below meth c H1 locs 0 0 (MQ below (va_Qi K (PW shM 18 D cc A ad rs) A) ([.ref (ad 0)] : List Value).toArray s 0 0 A) (F0 m 8 ls ([]))) (fun b1 b2 b3 μ => ∀ (H1 : Heap) (locs : List Loc) (ls : Array Slot), va_P D vwCl (wW shM 18 cc ad μ ++ rs) H1 → va_D A (wW shM 18 cc ad μ ++ rs) → va_S A s.heap H1 locs → lv_has ls 4 [(0, .ref (ad 0)), (1, .int b1), (2, .int b2), (3, .int b3)] → W p l e (headSpec wsX6_openNow ({ frames := 4, cells := 0, slots := 0, locals := 95 })).room s m ([.ref (ad 0)] : List Value).toArray below meth c H1 locs 0 0 (MQ below (va_Qi K (PW shM 18 D cc A ad rs) A) ([.ref (ad 0)] : List Value).toArray s 0 0 A) (F0 m 23 ls ([]))) (fun b2 b3 z0 z1 μ => ∀ (H1 : Heap) (locs : List Loc) (ls : Array Slot), va_P D vwCl (wW shM 18 cc ad μ ++ rs) H1 → va_D A (wW shM 18 cc ad μ ++ rs) → va_S A s.heap H1 locs → lv_has ls 4 [(0, .ref (ad 0)), (2, .int b2), (3, .int b3)] → W p l e (headSpec wsX6_openNow ({ frames := 4, cells := 0, slots := 0, locals := 95 })).room s m ([.ref (ad 0)] : List Value).toArray below meth c H1 locs 0 0 (MQ below (va_Qi K (PW shM 18 D cc A ad rs) A) ([.ref (ad 0)] : List Value).toArray s 0 0 A) (F0 m 49 ls ([.int z0, .int z1]))) ?b8 ?b23 ?b49)
  case main =>
      refine lv_aload_n hx hb dX6_openNow_0 rfl (lv_at hl 0 rfl) ?_
      refine zc_v (zc_runV (As := []) (rest := []) ⟨hx, hb, hml, hown, hts⟩ (c_X6_findBehind l D cc A ad rs  μ _ h) (cwV 0 hts gX6_openNow_X6_findBehind rfl rfl rfl (by decide +kernel) ⟨Nat.le_of_ble_eq_true rfl, Nat.le_of_ble_eq_true rfl⟩) kM_0 rfl hK hN hP hD rfl hl.1 rfl (Nat.le_of_ble_eq_true rfl) dX6_openNow_1 ⟨Nat.zero_le _, Nat.zero_le _⟩) hS (fun μ2 H locs h hP hD hS => ?_)
      refine lv_iconst (v := 0) hx hb dX6_openNow_4 (by decide) ?_
      refine lv_istore_n (lv' := [(1, .int 0), (0, .ref (ad 0))]) hx hb dX6_openNow_5 rfl hl (by decide) rfl (fun ls hl => ?_)
      refine lv_iconst (v := 0) hx hb dX6_openNow_6 (by decide) ?_
      refine lv_istore_n (lv' := [(2, .int 0), (1, .int 0), (0, .ref (ad 0))]) hx hb dX6_openNow_7 rfl hl (by decide) rfl (fun ls hl => ?_)
      exact h _ _ _ hP hD hS (lv_sub hl [2, 1, 0] rfl)
  case b8 =>
    intro b1 b2 μ h H locs ls hP hD hS hl
    refine lv_iload_n hx hb dX6_openNow_8 rfl (lv_at hl 2 rfl) ?_
    refine lv_aload_n hx hb dX6_openNow_9 rfl (lv_at hl 0 rfl) ?_
    refine zw_get (C := RX6) (T := TX6) (M := 22) (v := .ref (ad 1)) hx hb hts hi_X6 hown hK hP kM_0 rfl 0 (by decide) hw0 rfl dX6_openNow_10 ?_
    refine lv_bipush (v := 34) hx hb dX6_openNow_13 (by decide) ?_
    obtain ⟨hi3, h⟩ := h
    refine zw_iald hx hb hK hP kM_1 hi3 dX6_openNow_15 ?_
    refine lv_icmp_ge (tgt := 63) hx hb dX6_openNow_16 (by decide) (fun c4 => ?_) (fun c4 => ?_)
    · have h := h.1 c4
      refine lv_iload_n hx hb dX6_openNow_63 rfl (lv_at hl 1 rfl) ?_
      exact W.iret (v := b1) hx hb hr (fun t ht hW => ⟨⟨b1, μ, rfl, h, PW.to hK hN hP hD t ht hW⟩, hS.F ht⟩) hS.2.2 dX6_openNow_64
    · have h := h.2 c4
      refine lv_iload_n hx hb dX6_openNow_19 rfl (lv_at hl 2 rfl) ?_
      refine lv_iconst (v := 1) hx hb dX6_openNow_20 (by decide) ?_
      refine lv_iadd hx hb dX6_openNow_21 ?_
      refine lv_topi (fun y5 ey5 => ?_)
      have h := h y5 ey5
      refine lv_istore_n (lv' := [(3, .int y5), (0, .ref (ad 0)), (1, .int b1), (2, .int b2)]) hx hb dX6_openNow_22 rfl hl (by decide) rfl (fun ls hl => ?_)
      exact h _ _ _ hP hD hS (lv_sub hl [1, 2, 3, 0] rfl)
  case b23 =>
    intro b1 b2 b3 μ h H locs ls hP hD hS hl
    refine lv_iload_n hx hb dX6_openNow_23 rfl (lv_at hl 3 rfl) ?_
    refine lv_aload_n hx hb dX6_openNow_24 rfl (lv_at hl 0 rfl) ?_
    refine zw_get (C := RX6) (T := TX6) (M := 22) (v := .ref (ad 1)) hx hb hts hi_X6 hown hK hP kM_0 rfl 0 (by decide) hw0 rfl dX6_openNow_25 ?_
    refine lv_bipush (v := 34) hx hb dX6_openNow_28 (by decide) ?_
    obtain ⟨hi6, h⟩ := h
    refine zw_iald hx hb hK hP kM_1 hi6 dX6_openNow_30 ?_
    refine lv_icmp_ge (tgt := 57) hx hb dX6_openNow_31 (by decide) (fun c7 => ?_) (fun c7 => ?_)
    · have h := h.1 c7
      obtain ⟨y8, ey8⟩ : ∃ y : Int32, y = b2 + 1 := ⟨_, rfl⟩
      have h := h y8 ey8
      refine lv_iinc (v := y8) (lv' := [(2, .int y8), (0, .ref (ad 0)), (1, .int b1), (3, .int b3)]) hx hb dX6_openNow_57 hl (k := 2) rfl (by rw [ey8]; rfl) (by decide) rfl (fun ls hl => ?_)
      refine lv_goto (tgt := 8) hx hb dX6_openNow_60 (by decide) ?_
      exact h _ _ _ hP hD hS (lv_sub hl [1, 2, 0] rfl)
    · have h := h.2 c7
      refine lv_iload_n hx hb dX6_openNow_34 rfl (lv_at hl 1 rfl) ?_
      refine lv_aload_n hx hb dX6_openNow_35 rfl (lv_at hl 0 rfl) ?_
      refine lv_iload_n hx hb dX6_openNow_36 rfl (lv_at hl 2 rfl) ?_
      refine lv_iload_n hx hb dX6_openNow_37 rfl (lv_at hl 3 rfl) ?_
      refine zc_i (zc_runV (As := [.int b2, .int b3]) (rest := [.int b1]) ⟨hx, hb, hml, hown, hts⟩ (c_X6_isOpen l D cc A ad rs b2 b3 μ _ h) (cwV 2 hts gX6_openNow_X6_isOpen rfl rfl rfl (by decide +kernel) ⟨Nat.le_of_ble_eq_true rfl, Nat.le_of_ble_eq_true rfl⟩) kM_0 rfl hK hN hP hD rfl hl.1 rfl (Nat.le_of_ble_eq_true rfl) dX6_openNow_38 ⟨Nat.zero_le _, Nat.zero_le _⟩) hS (fun r9 μ10 H locs h hP hD hS => ?_)
      refine lv_if_eq (tgt := 48) hx hb dX6_openNow_41 (by decide) (fun c11 => ?_) (fun c11 => ?_)
      · have h := h.1 c11
        refine lv_iconst (v := 0) hx hb dX6_openNow_48 (by decide) ?_
        exact h _ _ _ hP hD hS (lv_sub hl [0, 2, 3] rfl)
      · have h := h.2 c11
        refine lv_iconst (v := 1) hx hb dX6_openNow_44 (by decide) ?_
        refine lv_goto (tgt := 49) hx hb dX6_openNow_45 (by decide) ?_
        exact h _ _ _ hP hD hS (lv_sub hl [0, 2, 3] rfl)
  case b49 =>
    intro b2 b3 z0 z1 μ h H locs ls hP hD hS hl
    refine lv_iadd hx hb dX6_openNow_49 ?_
    refine lv_topi (fun y12 ey12 => ?_)
    have h := h y12 ey12
    refine lv_istore_n (lv' := [(1, .int y12), (0, .ref (ad 0)), (2, .int b2), (3, .int b3)]) hx hb dX6_openNow_50 rfl hl (by decide) rfl (fun ls hl => ?_)
    obtain ⟨y13, ey13⟩ : ∃ y : Int32, y = b3 + 1 := ⟨_, rfl⟩
    have h := h y13 ey13
    refine lv_iinc (v := y13) (lv' := [(3, .int y13), (1, .int y12), (0, .ref (ad 0)), (2, .int b2)]) hx hb dX6_openNow_51 hl (k := 3) rfl (by rw [ey13]; rfl) (by decide) rfl (fun ls hl => ?_)
    refine lv_goto (tgt := 23) hx hb dX6_openNow_54 (by decide) ?_
    exact h _ _ _ hP hD hS (lv_sub hl [2, 1, 3, 0] rfl)
set_option maxHeartbeats 4000000 in
set_option maxRecDepth 100000 in
theorem c_X6_open (l : Launch) (D : va_G) (cc : Nat → ClassId) (A : Nat → Prop) (ad : Nat → Nat) (rs : va_W)  (μ : Mem) (K : Int32 → Mem → Prop) (h : f_X6_open  μ K) : Met l yX6_open wsX6_open ({ frames := 5, cells := 0, slots := 0, locals := 118 }) (va_Pc [.ref (ad 0)] (PW shM 18 D cc A ad rs μ)) (va_Qi K (PW shM 18 D cc A ad rs) A) 0 0 A := by
  refine Met.ofW (cc := cX6_open) (maxL := 1) (ret := (some .int)) (by decide) rfl ?_
  intro p e s m args below meth c s₁ BB hml hv
  obtain ⟨rfl, hP, hK, hD, hN⟩ := hv
  have hx := BB.exec
  have hb := BB.bytes
  have hr := BB.returns
  have hts := atoms_spec (ws := wsX6_open) BB.pre
  have hown : s.vm.findClass RX6 = some m.cls := findClass_of_methodNamed BB.named
  have hlocks := BB.notSynchronized
  have hS : va_S A s.heap s.heap [] := va_S.rf
  have hl := lv_entry ([.ref (ad 0)]) (n := 1) (Nat.le_of_ble_eq_true rfl)
  rw [lg_entry_eq]
  generalize (lg_sl ([.ref (ad 0)]) ++ List.replicate (1 - (lg_sl ([.ref (ad 0)])).length) Slot.unset).toArray = ls at hl ⊢
  have hl : lv_has ls 1 [(0, .ref (ad 0))] := hl
  unfold f_X6_open at h
  refine lv_aload_n hx hb dX6_open_0 rfl (lv_at hl 0 rfl) ?_
  refine zc_i (zc_runV (As := []) (rest := []) ⟨hx, hb, hml, hown, hts⟩ (c_X6_openNow l D cc A ad rs  μ _ h) (cwV 0 hts gX6_open_X6_openNow rfl rfl rfl (by decide +kernel) ⟨Nat.le_of_ble_eq_true rfl, Nat.le_of_ble_eq_true rfl⟩) kM_0 rfl hK hN hP hD rfl hl.1 rfl (Nat.le_of_ble_eq_true rfl) dX6_open_1 ⟨Nat.zero_le _, Nat.zero_le _⟩) hS (fun r1 μ2 H locs h hP hD hS => ?_)
  exact W.iret (v := r1) hx hb hr (fun t ht hW => ⟨⟨r1, μ2, rfl, h, PW.to hK hN hP hD t ht hW⟩, hS.F ht⟩) hS.2.2 dX6_open_4
set_option maxHeartbeats 4000000 in
set_option maxRecDepth 100000 in
theorem c_X6_isResolvedNow (l : Launch) (D : va_G) (cc : Nat → ClassId) (A : Nat → Prop) (ad : Nat → Nat) (rs : va_W)  (μ : Mem) (K : Int32 → Mem → Prop) (h : f_X6_isResolvedNow  μ K) : Met l yX6_isResolvedNow wsX6_isResolvedNow ({ frames := 4, cells := 0, slots := 0, locals := 86 }) (va_Pc [.ref (ad 0)] (PW shM 18 D cc A ad rs μ)) (va_Qi K (PW shM 18 D cc A ad rs) A) 0 0 A := by
  refine Met.ofW (cc := cX6_isResolvedNow) (maxL := 5) (ret := (some .int)) (by decide) rfl ?_
  intro p e s m args below meth c s₁ BB hml hv
  obtain ⟨rfl, hP, hK, hD, hN⟩ := hv
  have hx := BB.exec
  have hb := BB.bytes
  have hr := BB.returns
  have hts := atoms_spec (ws := wsX6_isResolvedNow) BB.pre
  have hown : s.vm.findClass RX6 = some m.cls := findClass_of_methodNamed BB.named
  have hlocks := BB.notSynchronized
  have hi_X6 : ∀ w ∈ u_ws RX6 TX6 22, w ∈ wsX6_isResolvedNow := by decide +kernel
  have hw0 := hts (.fieldLink RX6 29 "FeatureClashesModel" "one" "[I") (by decide +kernel)
  have hw1 := hts (.fieldLink RX6 32 "FeatureClashesModel" "other" "[I") (by decide +kernel)
  have hS : va_S A s.heap s.heap [] := va_S.rf
  have hl := lv_entry ([.ref (ad 0)]) (n := 5) (Nat.le_of_ble_eq_true rfl)
  rw [lg_entry_eq]
  generalize (lg_sl ([.ref (ad 0)]) ++ List.replicate (5 - (lg_sl ([.ref (ad 0)])).length) Slot.unset).toArray = ls at hl ⊢
  have hl : lv_has ls 5 [(0, .ref (ad 0))] := hl
  unfold f_X6_isResolvedNow at h
  refine (fun h => ?main) (h (fun b2 b3 b4 μ => ∀ (H1 : Heap) (locs : List Loc) (ls : Array Slot), va_P D vwCl (wW shM 18 cc ad μ ++ rs) H1 → va_D A (wW shM 18 cc ad μ ++ rs) → va_S A s.heap H1 locs → lv_has ls 5 [(0, .ref (ad 0)), (2, .int b2), (3, .int b3), (4, .int b4)] → W p l e (headSpec wsX6_isResolvedNow ({ frames := 4, cells := 0, slots := 0, locals := 86 })).room s m ([.ref (ad 0)] : List Value).toArray below meth c H1 locs 0 0 (MQ below (va_Qi K (PW shM 18 D cc A ad rs) A) ([.ref (ad 0)] : List Value).toArray s 0 0 A) (F0 m 23 ls ([]))) (fun b3 μ => ∀ (H1 : Heap) (locs : List Loc) (ls : Array Slot), va_P D vwCl (wW shM 18 cc ad μ ++ rs) H1 → va_D A (wW shM 18 cc ad μ ++ rs) → va_S A s.heap H1 locs → lv_has ls 5 [(3, .int b3)] → W p l e (headSpec wsX6_isResolvedNow ({ frames := 4, cells := 0, slots := 0, locals := 86 })).room s m ([.ref (ad 0)] : List Value).toArray below meth c H1 locs 0 0 (MQ below (va_Qi K (PW shM 18 D cc A ad rs) A) ([.ref (ad 0)] : List Value).toArray s 0 0 A) (F0 m 73 ls ([]))) (fun b2 b3 b4 μ => ∀ (H1 : Heap) (locs : List Loc) (ls : Array Slot), va_P D vwCl (wW shM 18 cc ad μ ++ rs) H1 → va_D A (wW shM 18 cc ad μ ++ rs) → va_S A s.heap H1 locs → lv_has ls 5 [(0, .ref (ad 0)), (2, .int b2), (3, .int b3), (4, .int b4)] → W p l e (headSpec wsX6_isResolvedNow ({ frames := 4, cells := 0, slots := 0, locals := 86 })).room s m ([.ref (ad 0)] : List Value).toArray below meth c H1 locs 0 0 (MQ below (va_Qi K (PW shM 18 D cc A ad rs) A) ([.ref (ad 0)] : List Value).toArray s 0 0 A) (F0 m 67 ls ([]))) (fun b2 b4 z0 μ => ∀ (H1 : Heap) (locs : List Loc) (ls : Array Slot), va_P D vwCl (wW shM 18 cc ad μ ++ rs) H1 → va_D A (wW shM 18 cc ad μ ++ rs) → va_S A s.heap H1 locs → lv_has ls 5 [(0, .ref (ad 0)), (2, .int b2), (4, .int b4)] → W p l e (headSpec wsX6_isResolvedNow ({ frames := 4, cells := 0, slots := 0, locals := 86 })).room s m ([.ref (ad 0)] : List Value).toArray below meth c H1 locs 0 0 (MQ below (va_Qi K (PW shM 18 D cc A ad rs) A) ([.ref (ad 0)] : List Value).toArray s 0 0 A) (F0 m 66 ls ([.int z0]))) ?b23 ?b73 ?b67 ?b66)
  case main =>
      refine lv_aload_n hx hb dX6_isResolvedNow_0 rfl (lv_at hl 0 rfl) ?_
      refine zc_i (zc_runV (As := []) (rest := []) ⟨hx, hb, hml, hown, hts⟩ (c_X6_findResolved l D cc A ad rs  μ _ h) (cwV 0 hts gX6_isResolvedNow_X6_findResolved rfl rfl rfl (by decide +kernel) ⟨Nat.le_of_ble_eq_true rfl, Nat.le_of_ble_eq_true rfl⟩) kM_0 rfl hK hN hP hD rfl hl.1 rfl (Nat.le_of_ble_eq_true rfl) dX6_isResolvedNow_1 ⟨Nat.zero_le _, Nat.zero_le _⟩) hS (fun r1 μ2 H locs h hP hD hS => ?_)
      refine lv_istore_n (lv' := [(1, .int r1), (0, .ref (ad 0))]) hx hb dX6_isResolvedNow_4 rfl hl (by decide) rfl (fun ls hl => ?_)
      refine lv_aload_n hx hb dX6_isResolvedNow_5 rfl (lv_at hl 1 rfl) ?_
      refine lv_aload_n hx hb dX6_isResolvedNow_6 rfl (lv_at hl 1 rfl) ?_
      refine zw_get (C := RX6) (T := TX6) (M := 22) (v := .ref (ad 7)) hx hb hts hi_X6 hown hK hP kM_0 rfl 10 (by decide) hw0 rfl dX6_isResolvedNow_7 ?_
      refine zc_v (zc_runV (As := [.ref (ad 7)]) (rest := []) ⟨hx, hb, hml, hown, hts⟩ (c_X6_putsOrder l D cc A ad rs 7 kM_7 μ2 _ h) (cwV 1 hts gX6_isResolvedNow_X6_putsOrder rfl rfl rfl (by decide +kernel) ⟨Nat.le_of_ble_eq_true rfl, Nat.le_of_ble_eq_true rfl⟩) kM_0 rfl hK hN hP hD rfl hl.1 rfl (Nat.le_of_ble_eq_true rfl) dX6_isResolvedNow_10 ⟨Nat.zero_le _, Nat.zero_le _⟩) hS (fun μ4 H locs h hP hD hS => ?_)
      refine lv_aload_n hx hb dX6_isResolvedNow_13 rfl (lv_at hl 1 rfl) ?_
      refine zc_i (zc_runV (As := []) (rest := []) ⟨hx, hb, hml, hown, hts⟩ (c_X6_findThose l D cc A ad rs  μ4 _ h) (cwV 0 hts gX6_isResolvedNow_X6_findThose rfl rfl rfl (by decide +kernel) ⟨Nat.le_of_ble_eq_true rfl, Nat.le_of_ble_eq_true rfl⟩) kM_0 rfl hK hN hP hD rfl hl.1 rfl (Nat.le_of_ble_eq_true rfl) dX6_isResolvedNow_14 ⟨Nat.zero_le _, Nat.zero_le _⟩) hS (fun r5 μ6 H locs h hP hD hS => ?_)
      refine lv_istore_n (lv' := [(2, .int r5), (1, .int r1), (0, .ref (ad 0))]) hx hb dX6_isResolvedNow_17 rfl hl (by decide) rfl (fun ls hl => ?_)
      refine lv_iconst (v := 1) hx hb dX6_isResolvedNow_18 (by decide) ?_
      refine lv_istore_n (lv' := [(3, .int 1), (2, .int r5), (1, .int r1), (0, .ref (ad 0))]) hx hb dX6_isResolvedNow_19 rfl hl (by decide) rfl (fun ls hl => ?_)
      refine lv_iconst (v := 0) hx hb dX6_isResolvedNow_20 (by decide) ?_
      refine lv_istore (lv' := [(4, .int 0), (3, .int 1), (2, .int r5), (1, .int r1), (0, .ref (ad 0))]) hx hb dX6_isResolvedNow_21 hl (by decide) rfl (fun ls hl => ?_)
      exact h _ _ _ hP hD hS (lv_sub hl [4, 2, 1, 0] rfl)
  case b23 =>
    intro b2 b3 b4 μ h H locs ls hP hD hS hl
    refine lv_iload hx hb dX6_isResolvedNow_23 (lv_at hl 3 rfl) ?_
    refine lv_iload_n hx hb dX6_isResolvedNow_25 rfl (lv_at hl 1 rfl) ?_
    refine lv_icmp_ge (tgt := 73) hx hb dX6_isResolvedNow_26 (by decide) (fun c7 => ?_) (fun c7 => ?_)
    · have h := h.1 c7
      exact h _ _ _ hP hD hS (lv_sub hl [2] rfl)
    · have h := h.2 c7
      refine lv_iload_n hx hb dX6_isResolvedNow_29 rfl (lv_at hl 2 rfl) ?_
      refine lv_if_eq (tgt := 73) hx hb dX6_isResolvedNow_30 (by decide) (fun c8 => ?_) (fun c8 => ?_)
      · have h := h.1 c8
        exact h _ _ _ hP hD hS (lv_sub hl [2] rfl)
      · have h := h.2 c8
        refine lv_aload_n hx hb dX6_isResolvedNow_33 rfl (lv_at hl 0 rfl) ?_
        refine lv_iload hx hb dX6_isResolvedNow_34 (lv_at hl 3 rfl) ?_
        refine zc_v (zc_runV (As := [.int b4]) (rest := []) ⟨hx, hb, hml, hown, hts⟩ (c_X6_findOrder l D cc A ad rs b4 μ _ h) (cwV 1 hts gX6_isResolvedNow_X6_findOrder rfl rfl rfl (by decide +kernel) ⟨Nat.le_of_ble_eq_true rfl, Nat.le_of_ble_eq_true rfl⟩) kM_0 rfl hK hN hP hD rfl hl.1 rfl (Nat.le_of_ble_eq_true rfl) dX6_isResolvedNow_36 ⟨Nat.zero_le _, Nat.zero_le _⟩) hS (fun μ10 H locs h hP hD hS => ?_)
        refine lv_aload_n hx hb dX6_isResolvedNow_39 rfl (lv_at hl 0 rfl) ?_
        refine zc_i (zc_runV (As := []) (rest := []) ⟨hx, hb, hml, hown, hts⟩ (c_X6_isAllowed l D cc A ad rs  μ10 _ h) (cwV 0 hts gX6_isResolvedNow_X6_isAllowed rfl rfl rfl (by decide +kernel) ⟨Nat.le_of_ble_eq_true rfl, Nat.le_of_ble_eq_true rfl⟩) kM_0 rfl hK hN hP hD rfl hl.1 rfl (Nat.le_of_ble_eq_true rfl) dX6_isResolvedNow_40 ⟨Nat.zero_le _, Nat.zero_le _⟩) hS (fun r11 μ12 H locs h hP hD hS => ?_)
        refine lv_if_eq (tgt := 67) hx hb dX6_isResolvedNow_43 (by decide) (fun c13 => ?_) (fun c13 => ?_)
        · have h := h.1 c13
          exact h _ _ _ hP hD hS (lv_sub hl [0, 1, 2, 3] rfl)
        · have h := h.2 c13
          refine lv_aload_n hx hb dX6_isResolvedNow_46 rfl (lv_at hl 0 rfl) ?_
          refine lv_aload_n hx hb dX6_isResolvedNow_47 rfl (lv_at hl 0 rfl) ?_
          refine zw_get (C := RX6) (T := TX6) (M := 22) (v := .ref (ad 8)) hx hb hts hi_X6 hown hK hP kM_0 rfl 11 (by decide) hw1 rfl dX6_isResolvedNow_48 ?_
          refine zc_v (zc_runV (As := [.ref (ad 8)]) (rest := []) ⟨hx, hb, hml, hown, hts⟩ (c_X6_putsOrder l D cc A ad rs 8 kM_8 μ12 _ h) (cwV 1 hts gX6_isResolvedNow_X6_putsOrder rfl rfl rfl (by decide +kernel) ⟨Nat.le_of_ble_eq_true rfl, Nat.le_of_ble_eq_true rfl⟩) kM_0 rfl hK hN hP hD rfl hl.1 rfl (Nat.le_of_ble_eq_true rfl) dX6_isResolvedNow_51 ⟨Nat.zero_le _, Nat.zero_le _⟩) hS (fun μ15 H locs h hP hD hS => ?_)
          refine lv_aload_n hx hb dX6_isResolvedNow_54 rfl (lv_at hl 0 rfl) ?_
          refine zc_i (zc_runV (As := []) (rest := []) ⟨hx, hb, hml, hown, hts⟩ (c_X6_findApart l D cc A ad rs  μ15 _ h) (cwV 0 hts gX6_isResolvedNow_X6_findApart rfl rfl rfl (by decide +kernel) ⟨Nat.le_of_ble_eq_true rfl, Nat.le_of_ble_eq_true rfl⟩) kM_0 rfl hK hN hP hD rfl hl.1 rfl (Nat.le_of_ble_eq_true rfl) dX6_isResolvedNow_55 ⟨Nat.zero_le _, Nat.zero_le _⟩) hS (fun r16 μ17 H locs h hP hD hS => ?_)
          refine lv_if_ne (tgt := 65) hx hb dX6_isResolvedNow_58 (by decide) (fun c18 => ?_) (fun c18 => ?_)
          · have h := h.1 c18
            refine lv_iconst (v := 0) hx hb dX6_isResolvedNow_65 (by decide) ?_
            exact h _ _ _ hP hD hS (lv_sub hl [0, 1, 3] rfl)
          · have h := h.2 c18
            refine lv_iconst (v := 1) hx hb dX6_isResolvedNow_61 (by decide) ?_
            refine lv_goto (tgt := 66) hx hb dX6_isResolvedNow_62 (by decide) ?_
            exact h _ _ _ hP hD hS (lv_sub hl [0, 1, 3] rfl)
  case b73 =>
    intro b3 μ h H locs ls hP hD hS hl
    refine lv_iload_n hx hb dX6_isResolvedNow_73 rfl (lv_at hl 0 rfl) ?_
    refine lv_if_eq (tgt := 81) hx hb dX6_isResolvedNow_74 (by decide) (fun c19 => ?_) (fun c19 => ?_)
    · have h := h.1 c19
      refine lv_iconst (v := 0) hx hb dX6_isResolvedNow_81 (by decide) ?_
      exact W.iret (v := 0) hx hb hr (fun t ht hW => ⟨⟨0, μ, rfl, h, PW.to hK hN hP hD t ht hW⟩, hS.F ht⟩) hS.2.2 dX6_isResolvedNow_82
    · have h := h.2 c19
      refine lv_iconst (v := 1) hx hb dX6_isResolvedNow_77 (by decide) ?_
      refine lv_goto (tgt := 82) hx hb dX6_isResolvedNow_78 (by decide) ?_
      exact W.iret (v := 1) hx hb hr (fun t ht hW => ⟨⟨1, μ, rfl, h, PW.to hK hN hP hD t ht hW⟩, hS.F ht⟩) hS.2.2 dX6_isResolvedNow_82
  case b67 =>
    intro b2 b3 b4 μ h H locs ls hP hD hS hl
    obtain ⟨y20, ey20⟩ : ∃ y : Int32, y = b4 + 1 := ⟨_, rfl⟩
    have h := h y20 ey20
    refine lv_iinc (v := y20) (lv' := [(4, .int y20), (0, .ref (ad 0)), (2, .int b2), (3, .int b3)]) hx hb dX6_isResolvedNow_67 hl (k := 3) rfl (by rw [ey20]; rfl) (by decide) rfl (fun ls hl => ?_)
    refine lv_goto (tgt := 23) hx hb dX6_isResolvedNow_70 (by decide) ?_
    exact h _ _ _ hP hD hS (lv_sub hl [1, 2, 3, 0] rfl)
  case b66 =>
    intro b2 b4 z0 μ h H locs ls hP hD hS hl
    refine lv_istore_n (lv' := [(3, .int z0), (0, .ref (ad 0)), (2, .int b2), (4, .int b4)]) hx hb dX6_isResolvedNow_66 rfl hl (by decide) rfl (fun ls hl => ?_)
    exact h _ _ _ hP hD hS (lv_sub hl [1, 2, 0, 3] rfl)
set_option maxHeartbeats 4000000 in
set_option maxRecDepth 100000 in
theorem c_X6_isResolved (l : Launch) (D : va_G) (cc : Nat → ClassId) (A : Nat → Prop) (ad : Nat → Nat) (rs : va_W)  (μ : Mem) (K : Int32 → Mem → Prop) (h : f_X6_isResolved  μ K) : Met l yX6_isResolved wsX6_isResolved ({ frames := 5, cells := 0, slots := 0, locals := 110 }) (va_Pc [.ref (ad 0)] (PW shM 18 D cc A ad rs μ)) (va_Qi K (PW shM 18 D cc A ad rs) A) 0 0 A := by
  refine Met.ofW (cc := cX6_isResolved) (maxL := 1) (ret := (some .int)) (by decide) rfl ?_
  intro p e s m args below meth c s₁ BB hml hv
  obtain ⟨rfl, hP, hK, hD, hN⟩ := hv
  have hx := BB.exec
  have hb := BB.bytes
  have hr := BB.returns
  have hts := atoms_spec (ws := wsX6_isResolved) BB.pre
  have hown : s.vm.findClass RX6 = some m.cls := findClass_of_methodNamed BB.named
  have hlocks := BB.notSynchronized
  have hS : va_S A s.heap s.heap [] := va_S.rf
  have hl := lv_entry ([.ref (ad 0)]) (n := 1) (Nat.le_of_ble_eq_true rfl)
  rw [lg_entry_eq]
  generalize (lg_sl ([.ref (ad 0)]) ++ List.replicate (1 - (lg_sl ([.ref (ad 0)])).length) Slot.unset).toArray = ls at hl ⊢
  have hl : lv_has ls 1 [(0, .ref (ad 0))] := hl
  unfold f_X6_isResolved at h
  refine lv_aload_n hx hb dX6_isResolved_0 rfl (lv_at hl 0 rfl) ?_
  refine zc_i (zc_runV (As := []) (rest := []) ⟨hx, hb, hml, hown, hts⟩ (c_X6_isResolvedNow l D cc A ad rs  μ _ h) (cwV 0 hts gX6_isResolved_X6_isResolvedNow rfl rfl rfl (by decide +kernel) ⟨Nat.le_of_ble_eq_true rfl, Nat.le_of_ble_eq_true rfl⟩) kM_0 rfl hK hN hP hD rfl hl.1 rfl (Nat.le_of_ble_eq_true rfl) dX6_isResolved_1 ⟨Nat.zero_le _, Nat.zero_le _⟩) hS (fun r1 μ2 H locs h hP hD hS => ?_)
  exact W.iret (v := r1) hx hb hr (fun t ht hW => ⟨⟨r1, μ2, rfl, h, PW.to hK hN hP hD t ht hW⟩, hS.F ht⟩) hS.2.2 dX6_isResolved_4
set_option maxHeartbeats 4000000 in
set_option maxRecDepth 100000 in
theorem c_X6_resolve (l : Launch) (D : va_G) (cc : Nat → ClassId) (A : Nat → Prop) (ad : Nat → Nat) (rs : va_W)  (μ : Mem) (K : Int32 → Mem → Prop) (h : f_X6_resolve  μ K) : Met l yX6_resolve wsX6_resolve ({ frames := 4, cells := 0, slots := 0, locals := 95 }) (va_Pc [.ref (ad 0)] (PW shM 18 D cc A ad rs μ)) (va_Qi K (PW shM 18 D cc A ad rs) A) 0 0 A := by
  refine Met.ofW (cc := cX6_resolve) (maxL := 4) (ret := (some .int)) (by decide) rfl ?_
  intro p e s m args below meth c s₁ BB hml hv
  obtain ⟨rfl, hP, hK, hD, hN⟩ := hv
  have hx := BB.exec
  have hb := BB.bytes
  have hr := BB.returns
  have hts := atoms_spec (ws := wsX6_resolve) BB.pre
  have hown : s.vm.findClass RX6 = some m.cls := findClass_of_methodNamed BB.named
  have hlocks := BB.notSynchronized
  have hi_X6 : ∀ w ∈ u_ws RX6 TX6 22, w ∈ wsX6_resolve := by decide +kernel
  have hw0 := hts (.fieldLink RX6 7 "FeatureClashesModel" "v" "[I") (by decide +kernel)
  have hS : va_S A s.heap s.heap [] := va_S.rf
  have hl := lv_entry ([.ref (ad 0)]) (n := 4) (Nat.le_of_ble_eq_true rfl)
  rw [lg_entry_eq]
  generalize (lg_sl ([.ref (ad 0)]) ++ List.replicate (4 - (lg_sl ([.ref (ad 0)])).length) Slot.unset).toArray = ls at hl ⊢
  have hl : lv_has ls 4 [(0, .ref (ad 0))] := hl
  unfold f_X6_resolve at h
  refine (fun h => ?main) (h (fun b1 b2 μ => ∀ (H1 : Heap) (locs : List Loc) (ls : Array Slot), va_P D vwCl (wW shM 18 cc ad μ ++ rs) H1 → va_D A (wW shM 18 cc ad μ ++ rs) → va_S A s.heap H1 locs → lv_has ls 4 [(0, .ref (ad 0)), (1, .int b1), (2, .int b2)] → W p l e (headSpec wsX6_resolve ({ frames := 4, cells := 0, slots := 0, locals := 95 })).room s m ([.ref (ad 0)] : List Value).toArray below meth c H1 locs 0 0 (MQ below (va_Qi K (PW shM 18 D cc A ad rs) A) ([.ref (ad 0)] : List Value).toArray s 0 0 A) (F0 m 8 ls ([]))) (fun b1 b2 b3 μ => ∀ (H1 : Heap) (locs : List Loc) (ls : Array Slot), va_P D vwCl (wW shM 18 cc ad μ ++ rs) H1 → va_D A (wW shM 18 cc ad μ ++ rs) → va_S A s.heap H1 locs → lv_has ls 4 [(0, .ref (ad 0)), (1, .int b1), (2, .int b2), (3, .int b3)] → W p l e (headSpec wsX6_resolve ({ frames := 4, cells := 0, slots := 0, locals := 95 })).room s m ([.ref (ad 0)] : List Value).toArray below meth c H1 locs 0 0 (MQ below (va_Qi K (PW shM 18 D cc A ad rs) A) ([.ref (ad 0)] : List Value).toArray s 0 0 A) (F0 m 23 ls ([]))) (fun b1 b2 b3 μ => ∀ (H1 : Heap) (locs : List Loc) (ls : Array Slot), va_P D vwCl (wW shM 18 cc ad μ ++ rs) H1 → va_D A (wW shM 18 cc ad μ ++ rs) → va_S A s.heap H1 locs → lv_has ls 4 [(0, .ref (ad 0)), (1, .int b1), (2, .int b2), (3, .int b3)] → W p l e (headSpec wsX6_resolve ({ frames := 4, cells := 0, slots := 0, locals := 95 })).room s m ([.ref (ad 0)] : List Value).toArray below meth c H1 locs 0 0 (MQ below (va_Qi K (PW shM 18 D cc A ad rs) A) ([.ref (ad 0)] : List Value).toArray s 0 0 A) (F0 m 67 ls ([]))) ?b8 ?b23 ?b67)
  case main =>
      refine lv_iconst (v := 0) hx hb dX6_resolve_0 (by decide) ?_
      refine lv_istore_n (lv' := [(1, .int 0), (0, .ref (ad 0))]) hx hb dX6_resolve_1 rfl hl (by decide) rfl (fun ls hl => ?_)
      refine lv_aload_n hx hb dX6_resolve_2 rfl (lv_at hl 1 rfl) ?_
      refine zc_v (zc_runV (As := []) (rest := []) ⟨hx, hb, hml, hown, hts⟩ (c_X6_findBehind l D cc A ad rs  μ _ h) (cwV 0 hts gX6_resolve_X6_findBehind rfl rfl rfl (by decide +kernel) ⟨Nat.le_of_ble_eq_true rfl, Nat.le_of_ble_eq_true rfl⟩) kM_0 rfl hK hN hP hD rfl hl.1 rfl (Nat.le_of_ble_eq_true rfl) dX6_resolve_3 ⟨Nat.zero_le _, Nat.zero_le _⟩) hS (fun μ2 H locs h hP hD hS => ?_)
      refine lv_iconst (v := 0) hx hb dX6_resolve_6 (by decide) ?_
      refine lv_istore_n (lv' := [(2, .int 0), (1, .int 0), (0, .ref (ad 0))]) hx hb dX6_resolve_7 rfl hl (by decide) rfl (fun ls hl => ?_)
      exact h _ _ _ hP hD hS (lv_sub hl [2, 1, 0] rfl)
  case b8 =>
    intro b1 b2 μ h H locs ls hP hD hS hl
    refine lv_iload_n hx hb dX6_resolve_8 rfl (lv_at hl 2 rfl) ?_
    refine lv_aload_n hx hb dX6_resolve_9 rfl (lv_at hl 0 rfl) ?_
    refine zw_get (C := RX6) (T := TX6) (M := 22) (v := .ref (ad 1)) hx hb hts hi_X6 hown hK hP kM_0 rfl 0 (by decide) hw0 rfl dX6_resolve_10 ?_
    refine lv_bipush (v := 34) hx hb dX6_resolve_13 (by decide) ?_
    obtain ⟨hi3, h⟩ := h
    refine zw_iald hx hb hK hP kM_1 hi3 dX6_resolve_15 ?_
    refine lv_icmp_ge (tgt := 79) hx hb dX6_resolve_16 (by decide) (fun c4 => ?_) (fun c4 => ?_)
    · have h := h.1 c4
      refine lv_iload_n hx hb dX6_resolve_79 rfl (lv_at hl 1 rfl) ?_
      exact W.iret (v := b1) hx hb hr (fun t ht hW => ⟨⟨b1, μ, rfl, h, PW.to hK hN hP hD t ht hW⟩, hS.F ht⟩) hS.2.2 dX6_resolve_80
    · have h := h.2 c4
      refine lv_iload_n hx hb dX6_resolve_19 rfl (lv_at hl 2 rfl) ?_
      refine lv_iconst (v := 1) hx hb dX6_resolve_20 (by decide) ?_
      refine lv_iadd hx hb dX6_resolve_21 ?_
      refine lv_topi (fun y5 ey5 => ?_)
      have h := h y5 ey5
      refine lv_istore_n (lv' := [(3, .int y5), (0, .ref (ad 0)), (1, .int b1), (2, .int b2)]) hx hb dX6_resolve_22 rfl hl (by decide) rfl (fun ls hl => ?_)
      exact h _ _ _ hP hD hS (lv_sub hl [1, 2, 3, 0] rfl)
  case b23 =>
    intro b1 b2 b3 μ h H locs ls hP hD hS hl
    refine lv_iload_n hx hb dX6_resolve_23 rfl (lv_at hl 3 rfl) ?_
    refine lv_aload_n hx hb dX6_resolve_24 rfl (lv_at hl 0 rfl) ?_
    refine zw_get (C := RX6) (T := TX6) (M := 22) (v := .ref (ad 1)) hx hb hts hi_X6 hown hK hP kM_0 rfl 0 (by decide) hw0 rfl dX6_resolve_25 ?_
    refine lv_bipush (v := 34) hx hb dX6_resolve_28 (by decide) ?_
    obtain ⟨hi6, h⟩ := h
    refine zw_iald hx hb hK hP kM_1 hi6 dX6_resolve_30 ?_
    refine lv_icmp_ge (tgt := 73) hx hb dX6_resolve_31 (by decide) (fun c7 => ?_) (fun c7 => ?_)
    · have h := h.1 c7
      obtain ⟨y8, ey8⟩ : ∃ y : Int32, y = b2 + 1 := ⟨_, rfl⟩
      have h := h y8 ey8
      refine lv_iinc (v := y8) (lv' := [(2, .int y8), (0, .ref (ad 0)), (1, .int b1), (3, .int b3)]) hx hb dX6_resolve_73 hl (k := 2) rfl (by rw [ey8]; rfl) (by decide) rfl (fun ls hl => ?_)
      refine lv_goto (tgt := 8) hx hb dX6_resolve_76 (by decide) ?_
      exact h _ _ _ hP hD hS (lv_sub hl [1, 2, 0] rfl)
    · have h := h.2 c7
      refine lv_aload_n hx hb dX6_resolve_34 rfl (lv_at hl 0 rfl) ?_
      refine lv_iload_n hx hb dX6_resolve_35 rfl (lv_at hl 2 rfl) ?_
      refine lv_iload_n hx hb dX6_resolve_36 rfl (lv_at hl 3 rfl) ?_
      refine zc_i (zc_runV (As := [.int b2, .int b3]) (rest := []) ⟨hx, hb, hml, hown, hts⟩ (c_X6_isOpen l D cc A ad rs b2 b3 μ _ h) (cwV 2 hts gX6_resolve_X6_isOpen rfl rfl rfl (by decide +kernel) ⟨Nat.le_of_ble_eq_true rfl, Nat.le_of_ble_eq_true rfl⟩) kM_0 rfl hK hN hP hD rfl hl.1 rfl (Nat.le_of_ble_eq_true rfl) dX6_resolve_37 ⟨Nat.zero_le _, Nat.zero_le _⟩) hS (fun r9 μ10 H locs h hP hD hS => ?_)
      refine lv_if_eq (tgt := 67) hx hb dX6_resolve_40 (by decide) (fun c11 => ?_) (fun c11 => ?_)
      · have h := h.1 c11
        exact h _ _ _ hP hD hS (lv_sub hl [0, 1, 2, 3] rfl)
      · have h := h.2 c11
        refine lv_aload_n hx hb dX6_resolve_43 rfl (lv_at hl 0 rfl) ?_
        refine zw_get (C := RX6) (T := TX6) (M := 22) (v := .ref (ad 1)) hx hb hts hi_X6 hown hK hP kM_0 rfl 0 (by decide) hw0 rfl dX6_resolve_44 ?_
        refine lv_iload_n hx hb dX6_resolve_47 rfl (lv_at hl 2 rfl) ?_
        refine lv_bipush (v := 33) hx hb dX6_resolve_48 (by decide) ?_
        refine zc_i (zc_runS (As := [.int b2, .int 33]) (rest := [.ref (ad 1)]) ⟨hx, hb, hml, hown, hts⟩ (c_X6_at l D cc A ad rs b2 33 μ10 _ h) (va_cwS 2 hts gX6_resolve_X6_at rfl rfl rfl (by decide +kernel) ⟨Nat.le_of_ble_eq_true rfl, Nat.le_of_ble_eq_true rfl⟩) hK hN hP hD rfl hl.1 rfl (Nat.le_of_ble_eq_true rfl) dX6_resolve_50 ⟨Nat.zero_le _, Nat.zero_le _⟩) hS (fun r12 μ13 H locs h hP hD hS => ?_)
        refine lv_dup2_11 hx hb dX6_resolve_53 rfl rfl ?_
        obtain ⟨hi14, h⟩ := h
        refine zw_iald hx hb hK hP kM_1 hi14 dX6_resolve_54 ?_
        refine lv_iconst (v := 1) hx hb dX6_resolve_55 (by decide) ?_
        refine lv_iload_n hx hb dX6_resolve_56 rfl (lv_at hl 3 rfl) ?_
        refine lv_ishl hx hb dX6_resolve_57 ?_
        refine lv_ior hx hb dX6_resolve_58 ?_
        obtain ⟨hi15, h⟩ := h
        refine zw_iast hx hb hK hP hD hS kM_1 hi15 dX6_resolve_59 (fun μ16 H locs eμ16 hP hD hS => ?_)
        have h := h μ16 eμ16
        refine lv_aload_n hx hb dX6_resolve_60 rfl (lv_at hl 0 rfl) ?_
        refine zc_v (zc_runV (As := []) (rest := []) ⟨hx, hb, hml, hown, hts⟩ (c_X6_findBehind l D cc A ad rs  μ16 _ h) (cwV 0 hts gX6_resolve_X6_findBehind rfl rfl rfl (by decide +kernel) ⟨Nat.le_of_ble_eq_true rfl, Nat.le_of_ble_eq_true rfl⟩) kM_0 rfl hK hN hP hD rfl hl.1 rfl (Nat.le_of_ble_eq_true rfl) dX6_resolve_61 ⟨Nat.zero_le _, Nat.zero_le _⟩) hS (fun μ18 H locs h hP hD hS => ?_)
        obtain ⟨y19, ey19⟩ : ∃ y : Int32, y = b1 + 1 := ⟨_, rfl⟩
        have h := h y19 ey19
        refine lv_iinc (v := y19) (lv' := [(1, .int y19), (0, .ref (ad 0)), (2, .int b2), (3, .int b3)]) hx hb dX6_resolve_64 hl (k := 1) rfl (by rw [ey19]; rfl) (by decide) rfl (fun ls hl => ?_)
        exact h _ _ _ hP hD hS (lv_sub hl [1, 0, 2, 3] rfl)
  case b67 =>
    intro b1 b2 b3 μ h H locs ls hP hD hS hl
    obtain ⟨y20, ey20⟩ : ∃ y : Int32, y = b3 + 1 := ⟨_, rfl⟩
    have h := h y20 ey20
    refine lv_iinc (v := y20) (lv' := [(3, .int y20), (0, .ref (ad 0)), (1, .int b1), (2, .int b2)]) hx hb dX6_resolve_67 hl (k := 3) rfl (by rw [ey20]; rfl) (by decide) rfl (fun ls hl => ?_)
    refine lv_goto (tgt := 23) hx hb dX6_resolve_70 (by decide) ?_
    exact h _ _ _ hP hD hS (lv_sub hl [1, 2, 3, 0] rfl)
set_option maxHeartbeats 4000000 in
set_option maxRecDepth 100000 in
theorem c_X6_add (l : Launch) (D : va_G) (cc : Nat → ClassId) (A : Nat → Prop) (ad : Nat → Nat) (rs : va_W) (x1 : Int32) (μ : Mem) (K : Int32 → Mem → Prop) (h : f_X6_add x1 μ K) : Met l yX6_add wsX6_add ({ frames := 2, cells := 0, slots := 0, locals := 43 }) (va_Pc [.ref (ad 0), .int x1] (PW shM 18 D cc A ad rs μ)) (va_Qi K (PW shM 18 D cc A ad rs) A) 0 0 A := by
  refine Met.ofW (cc := cX6_add) (maxL := 2) (ret := (some .int)) (by decide) rfl ?_
  intro p e s m args below meth c s₁ BB hml hv
  obtain ⟨rfl, hP, hK, hD, hN⟩ := hv
  have hx := BB.exec
  have hb := BB.bytes
  have hr := BB.returns
  have hts := atoms_spec (ws := wsX6_add) BB.pre
  have hown : s.vm.findClass RX6 = some m.cls := findClass_of_methodNamed BB.named
  have hlocks := BB.notSynchronized
  have hi_X6 : ∀ w ∈ u_ws RX6 TX6 22, w ∈ wsX6_add := by decide +kernel
  have hw0 := hts (.fieldLink RX6 70 "FeatureClashesModel" "letters" "I") (by decide +kernel)
  have hw1 := hts (.fieldLink RX6 20 "FeatureClashesModel" "word" "[I") (by decide +kernel)
  have hS : va_S A s.heap s.heap [] := va_S.rf
  have hl := lv_entry ([.ref (ad 0), .int x1]) (n := 2) (Nat.le_of_ble_eq_true rfl)
  rw [lg_entry_eq]
  generalize (lg_sl ([.ref (ad 0), .int x1]) ++ List.replicate (2 - (lg_sl ([.ref (ad 0), .int x1])).length) Slot.unset).toArray = ls at hl ⊢
  have hl : lv_has ls 2 [(0, .ref (ad 0)), (1, .int x1)] := hl
  unfold f_X6_add at h
  refine lv_aload_n hx hb dX6_add_0 rfl (lv_at hl 0 rfl) ?_
  refine lv_iload_n hx hb dX6_add_1 rfl (lv_at hl 1 rfl) ?_
  refine zc_i (zc_runV (As := [.int x1]) (rest := []) ⟨hx, hb, hml, hown, hts⟩ (c_X6_isLetter l D cc A ad rs x1 μ _ h) (cwV 1 hts gX6_add_X6_isLetter rfl rfl rfl (by decide +kernel) ⟨Nat.le_of_ble_eq_true rfl, Nat.le_of_ble_eq_true rfl⟩) kM_0 rfl hK hN hP hD rfl hl.1 rfl (Nat.le_of_ble_eq_true rfl) dX6_add_2 ⟨Nat.zero_le _, Nat.zero_le _⟩) hS (fun r1 μ2 H locs h hP hD hS => ?_)
  refine lv_if_ne (tgt := 10) hx hb dX6_add_5 (by decide) (fun c3 => ?_) (fun c3 => ?_)
  · have h := h.1 c3
    refine lv_aload_n hx hb dX6_add_10 rfl (lv_at hl 0 rfl) ?_
    refine zw_get (C := RX6) (T := TX6) (M := 22) (v := .int (μ2.1 0 4)) hx hb hts hi_X6 hown hK hP kM_0 rfl 4 (by decide) hw0 rfl dX6_add_11 ?_
    refine lv_bipush (v := 20) hx hb dX6_add_14 (by decide) ?_
    refine lv_icmp_ne (tgt := 22) hx hb dX6_add_16 (by decide) (fun c4 => ?_) (fun c4 => ?_)
    · have h := h.1 c4
      refine lv_aload_n hx hb dX6_add_22 rfl (lv_at hl 0 rfl) ?_
      refine zw_get (C := RX6) (T := TX6) (M := 22) (v := .ref (ad 4)) hx hb hts hi_X6 hown hK hP kM_0 rfl 3 (by decide) hw1 rfl dX6_add_23 ?_
      refine lv_aload_n hx hb dX6_add_26 rfl (lv_at hl 0 rfl) ?_
      refine zw_get (C := RX6) (T := TX6) (M := 22) (v := .int (μ2.1 0 4)) hx hb hts hi_X6 hown hK hP kM_0 rfl 4 (by decide) hw0 rfl dX6_add_27 ?_
      refine lv_iload_n hx hb dX6_add_30 rfl (lv_at hl 1 rfl) ?_
      obtain ⟨hi5, h⟩ := h
      refine zw_iast hx hb hK hP hD hS kM_4 hi5 dX6_add_31 (fun μ6 H locs eμ6 hP hD hS => ?_)
      have h := h μ6 eμ6
      refine lv_aload_n hx hb dX6_add_32 rfl (lv_at hl 0 rfl) ?_
      refine lv_dup hx hb dX6_add_33 rfl ?_
      refine zw_get (C := RX6) (T := TX6) (M := 22) (v := .int (μ6.1 0 4)) hx hb hts hi_X6 hown hK hP kM_0 rfl 4 (by decide) hw0 rfl dX6_add_34 ?_
      refine lv_iconst (v := 1) hx hb dX6_add_37 (by decide) ?_
      refine lv_iadd hx hb dX6_add_38 ?_
      refine zw_put (C := RX6) (T := TX6) (M := 22) hx hb hts hi_X6 tyX6 tyX6_ok nmX6 hown hK hP hD hS kM_0 rfl 4 (by decide) hw0 rfl rfl (Nat.le_of_ble_eq_true rfl) rfl dX6_add_39 (fun μ7 H locs eμ7 hP hD hS => ?_)
      have h := h μ7 eμ7
      refine lv_aload_n hx hb dX6_add_42 rfl (lv_at hl 0 rfl) ?_
      refine zw_get (C := RX6) (T := TX6) (M := 22) (v := .int (μ7.1 0 4)) hx hb hts hi_X6 hown hK hP kM_0 rfl 4 (by decide) hw0 rfl dX6_add_43 ?_
      exact W.iret (v := μ7.1 0 4) hx hb hr (fun t ht hW => ⟨⟨μ7.1 0 4, μ7, rfl, h, PW.to hK hN hP hD t ht hW⟩, hS.F ht⟩) hS.2.2 dX6_add_46
    · have h := h.2 c4
      refine lv_bipush (v := (-4)) hx hb dX6_add_19 (by decide) ?_
      exact W.iret (v := (-4)) hx hb hr (fun t ht hW => ⟨⟨(-4), μ2, rfl, h, PW.to hK hN hP hD t ht hW⟩, hS.F ht⟩) hS.2.2 dX6_add_21
  · have h := h.2 c3
    refine lv_iconst (v := (-1)) hx hb dX6_add_8 (by decide) ?_
    exact W.iret (v := (-1)) hx hb hr (fun t ht hW => ⟨⟨(-1), μ2, rfl, h, PW.to hK hN hP hD t ht hW⟩, hS.F ht⟩) hS.2.2 dX6_add_9
set_option maxHeartbeats 4000000 in
set_option maxRecDepth 100000 in
theorem c_X6_clearWord (l : Launch) (D : va_G) (cc : Nat → ClassId) (A : Nat → Prop) (ad : Nat → Nat) (rs : va_W)  (μ : Mem) (K : Int32 → Mem → Prop) (h : f_X6_clearWord  μ K) : Met l yX6_clearWord wsX6_clearWord ({ frames := 0, cells := 0, slots := 0, locals := 0 }) (va_Pc [.ref (ad 0)] (PW shM 18 D cc A ad rs μ)) (va_Qi K (PW shM 18 D cc A ad rs) A) 0 0 A := by
  refine Met.ofW (cc := cX6_clearWord) (maxL := 2) (ret := (some .int)) (by decide) rfl ?_
  intro p e s m args below meth c s₁ BB hml hv
  obtain ⟨rfl, hP, hK, hD, hN⟩ := hv
  have hx := BB.exec
  have hb := BB.bytes
  have hr := BB.returns
  have hts := atoms_spec (ws := wsX6_clearWord) BB.pre
  have hown : s.vm.findClass RX6 = some m.cls := findClass_of_methodNamed BB.named
  have hlocks := BB.notSynchronized
  have hi_X6 : ∀ w ∈ u_ws RX6 TX6 22, w ∈ wsX6_clearWord := by decide +kernel
  have hw0 := hts (.fieldLink RX6 70 "FeatureClashesModel" "letters" "I") (by decide +kernel)
  have hS : va_S A s.heap s.heap [] := va_S.rf
  have hl := lv_entry ([.ref (ad 0)]) (n := 2) (Nat.le_of_ble_eq_true rfl)
  rw [lg_entry_eq]
  generalize (lg_sl ([.ref (ad 0)]) ++ List.replicate (2 - (lg_sl ([.ref (ad 0)])).length) Slot.unset).toArray = ls at hl ⊢
  have hl : lv_has ls 2 [(0, .ref (ad 0))] := hl
  unfold f_X6_clearWord at h
  refine lv_aload_n hx hb dX6_clearWord_0 rfl (lv_at hl 0 rfl) ?_
  refine zw_get (C := RX6) (T := TX6) (M := 22) (v := .int (μ.1 0 4)) hx hb hts hi_X6 hown hK hP kM_0 rfl 4 (by decide) hw0 rfl dX6_clearWord_1 ?_
  refine lv_topi (fun y1 ey1 => ?_)
  have h := h y1 ey1
  refine lv_istore_n (lv' := [(1, .int y1), (0, .ref (ad 0))]) hx hb dX6_clearWord_4 rfl hl (by decide) rfl (fun ls hl => ?_)
  refine lv_aload_n hx hb dX6_clearWord_5 rfl (lv_at hl 1 rfl) ?_
  refine lv_iconst (v := 0) hx hb dX6_clearWord_6 (by decide) ?_
  refine zw_put (C := RX6) (T := TX6) (M := 22) hx hb hts hi_X6 tyX6 tyX6_ok nmX6 hown hK hP hD hS kM_0 rfl 4 (by decide) hw0 rfl rfl (Nat.le_of_ble_eq_true rfl) rfl dX6_clearWord_7 (fun μ2 H locs eμ2 hP hD hS => ?_)
  have h := h μ2 eμ2
  refine lv_iload_n hx hb dX6_clearWord_10 rfl (lv_at hl 0 rfl) ?_
  exact W.iret (v := y1) hx hb hr (fun t ht hW => ⟨⟨y1, μ2, rfl, h, PW.to hK hN hP hD t ht hW⟩, hS.F ht⟩) hS.2.2 dX6_clearWord_11
set_option maxHeartbeats 4000000 in
set_option maxRecDepth 100000 in
theorem c_X6_findResolvedMachine (l : Launch) (D : va_G) (cc : Nat → ClassId) (A : Nat → Prop) (ad : Nat → Nat) (rs : va_W)  (μ : Mem) (K : Mem → Prop) (h : f_X6_findResolvedMachine  μ K) : Met l yX6_findResolvedMachine wsX6_findResolvedMachine ({ frames := 4, cells := 0, slots := 0, locals := 86 }) (va_Pc [.ref (ad 0)] (PW shM 18 D cc A ad rs μ)) (va_Qv K (PW shM 18 D cc A ad rs) A) 0 0 A := by
  refine Met.ofW (cc := cX6_findResolvedMachine) (maxL := 2) (ret := none) (by decide) rfl ?_
  intro p e s m args below meth c s₁ BB hml hv
  obtain ⟨rfl, hP, hK, hD, hN⟩ := hv
  have hx := BB.exec
  have hb := BB.bytes
  have hr := BB.returns
  have hts := atoms_spec (ws := wsX6_findResolvedMachine) BB.pre
  have hown : s.vm.findClass RX6 = some m.cls := findClass_of_methodNamed BB.named
  have hlocks := BB.notSynchronized
  have hi_X6 : ∀ w ∈ u_ws RX6 TX6 22, w ∈ wsX6_findResolvedMachine := by decide +kernel
  have hw0 := hts (.fieldLink RX6 29 "FeatureClashesModel" "one" "[I") (by decide +kernel)
  have hS : va_S A s.heap s.heap [] := va_S.rf
  have hl := lv_entry ([.ref (ad 0)]) (n := 2) (Nat.le_of_ble_eq_true rfl)
  rw [lg_entry_eq]
  generalize (lg_sl ([.ref (ad 0)]) ++ List.replicate (2 - (lg_sl ([.ref (ad 0)])).length) Slot.unset).toArray = ls at hl ⊢
  have hl : lv_has ls 2 [(0, .ref (ad 0))] := hl
  unfold f_X6_findResolvedMachine at h
  refine lv_aload_n hx hb dX6_findResolvedMachine_0 rfl (lv_at hl 0 rfl) ?_
  refine zc_i (zc_runV (As := []) (rest := []) ⟨hx, hb, hml, hown, hts⟩ (c_X6_findResolved l D cc A ad rs  μ _ h) (cwV 0 hts gX6_findResolvedMachine_X6_findResolved rfl rfl rfl (by decide +kernel) ⟨Nat.le_of_ble_eq_true rfl, Nat.le_of_ble_eq_true rfl⟩) kM_0 rfl hK hN hP hD rfl hl.1 rfl (Nat.le_of_ble_eq_true rfl) dX6_findResolvedMachine_1 ⟨Nat.zero_le _, Nat.zero_le _⟩) hS (fun r1 μ2 H locs h hP hD hS => ?_)
  refine lv_istore_n (lv' := [(1, .int r1), (0, .ref (ad 0))]) hx hb dX6_findResolvedMachine_4 rfl hl (by decide) rfl (fun ls hl => ?_)
  refine lv_aload_n hx hb dX6_findResolvedMachine_5 rfl (lv_at hl 1 rfl) ?_
  refine lv_aload_n hx hb dX6_findResolvedMachine_6 rfl (lv_at hl 1 rfl) ?_
  refine zw_get (C := RX6) (T := TX6) (M := 22) (v := .ref (ad 7)) hx hb hts hi_X6 hown hK hP kM_0 rfl 10 (by decide) hw0 rfl dX6_findResolvedMachine_7 ?_
  refine zc_v (zc_runV (As := [.ref (ad 7)]) (rest := []) ⟨hx, hb, hml, hown, hts⟩ (c_X6_putsOrder l D cc A ad rs 7 kM_7 μ2 _ h) (cwV 1 hts gX6_findResolvedMachine_X6_putsOrder rfl rfl rfl (by decide +kernel) ⟨Nat.le_of_ble_eq_true rfl, Nat.le_of_ble_eq_true rfl⟩) kM_0 rfl hK hN hP hD rfl hl.1 rfl (Nat.le_of_ble_eq_true rfl) dX6_findResolvedMachine_10 ⟨Nat.zero_le _, Nat.zero_le _⟩) hS (fun μ4 H locs h hP hD hS => ?_)
  exact W.vret hx hb hr (fun t ht hW => ⟨⟨μ4, rfl, h, PW.to hK hN hP hD t ht hW⟩, hS.F ht⟩) hS.2.2 dX6_findResolvedMachine_13
set_option maxHeartbeats 4000000 in
set_option maxRecDepth 100000 in
theorem c_X6_answerOf (l : Launch) (D : va_G) (cc : Nat → ClassId) (A : Nat → Prop) (ad : Nat → Nat) (rs : va_W) (x1 : Int32) (μ : Mem) (K : Int32 → Mem → Prop) (h : f_X6_answerOf x1 μ K) : Met l yX6_answerOf wsX6_answerOf ({ frames := 1, cells := 0, slots := 0, locals := 22 }) (va_Pc [.ref (ad 0), .int x1] (PW shM 18 D cc A ad rs μ)) (va_Qi K (PW shM 18 D cc A ad rs) A) 0 0 A := by
  refine Met.ofW (cc := cX6_answerOf) (maxL := 4) (ret := (some .int)) (by decide) rfl ?_
  intro p e s m args below meth c s₁ BB hml hv
  obtain ⟨rfl, hP, hK, hD, hN⟩ := hv
  have hx := BB.exec
  have hb := BB.bytes
  have hr := BB.returns
  have hts := atoms_spec (ws := wsX6_answerOf) BB.pre
  have hown : s.vm.findClass RX6 = some m.cls := findClass_of_methodNamed BB.named
  have hlocks := BB.notSynchronized
  have hi_X6 : ∀ w ∈ u_ws RX6 TX6 22, w ∈ wsX6_answerOf := by decide +kernel
  have hw0 := hts (.fieldLink RX6 29 "FeatureClashesModel" "one" "[I") (by decide +kernel)
  have hw1 := hts (.fieldLink RX6 20 "FeatureClashesModel" "word" "[I") (by decide +kernel)
  have hS : va_S A s.heap s.heap [] := va_S.rf
  have hl := lv_entry ([.ref (ad 0), .int x1]) (n := 4) (Nat.le_of_ble_eq_true rfl)
  rw [lg_entry_eq]
  generalize (lg_sl ([.ref (ad 0), .int x1]) ++ List.replicate (4 - (lg_sl ([.ref (ad 0), .int x1])).length) Slot.unset).toArray = ls at hl ⊢
  have hl : lv_has ls 4 [(0, .ref (ad 0)), (1, .int x1)] := hl
  unfold f_X6_answerOf at h
  refine (fun h => ?main) (h (fun b1 b2 b3 μ => ∀ (H1 : Heap) (locs : List Loc) (ls : Array Slot), va_P D vwCl (wW shM 18 cc ad μ ++ rs) H1 → va_D A (wW shM 18 cc ad μ ++ rs) → va_S A s.heap H1 locs → lv_has ls 4 [(0, .ref (ad 0)), (1, .int b1), (2, .int b2), (3, .int b3)] → W p l e (headSpec wsX6_answerOf ({ frames := 1, cells := 0, slots := 0, locals := 22 })).room s m ([.ref (ad 0), .int x1] : List Value).toArray below meth c H1 locs 0 0 (MQ below (va_Qi K (PW shM 18 D cc A ad rs) A) ([.ref (ad 0), .int x1] : List Value).toArray s 0 0 A) (F0 m 4 ls ([]))) ?b4)
  case main =>
      refine lv_iconst (v := 0) hx hb dX6_answerOf_0 (by decide) ?_
      refine lv_istore_n (lv' := [(2, .int 0), (0, .ref (ad 0)), (1, .int x1)]) hx hb dX6_answerOf_1 rfl hl (by decide) rfl (fun ls hl => ?_)
      refine lv_iconst (v := 0) hx hb dX6_answerOf_2 (by decide) ?_
      refine lv_istore_n (lv' := [(3, .int 0), (2, .int 0), (0, .ref (ad 0)), (1, .int x1)]) hx hb dX6_answerOf_3 rfl hl (by decide) rfl (fun ls hl => ?_)
      exact h _ _ _ hP hD hS (lv_sub hl [2, 3, 1, 0] rfl)
  case b4 =>
    intro b1 b2 b3 μ h H locs ls hP hD hS hl
    refine lv_iload_n hx hb dX6_answerOf_4 rfl (lv_at hl 3 rfl) ?_
    refine lv_iload_n hx hb dX6_answerOf_5 rfl (lv_at hl 1 rfl) ?_
    refine lv_icmp_ge (tgt := 30) hx hb dX6_answerOf_6 (by decide) (fun c1 => ?_) (fun c1 => ?_)
    · have h := h.1 c1
      refine lv_aload_n hx hb dX6_answerOf_30 rfl (lv_at hl 0 rfl) ?_
      refine zw_get (C := RX6) (T := TX6) (M := 22) (v := .ref (ad 7)) hx hb hts hi_X6 hown hK hP kM_0 rfl 10 (by decide) hw0 rfl dX6_answerOf_31 ?_
      refine lv_iload_n hx hb dX6_answerOf_34 rfl (lv_at hl 2 rfl) ?_
      refine lv_aload_n hx hb dX6_answerOf_35 rfl (lv_at hl 0 rfl) ?_
      refine zw_get (C := RX6) (T := TX6) (M := 22) (v := .ref (ad 4)) hx hb hts hi_X6 hown hK hP kM_0 rfl 3 (by decide) hw1 rfl dX6_answerOf_36 ?_
      refine lv_iload_n hx hb dX6_answerOf_39 rfl (lv_at hl 1 rfl) ?_
      obtain ⟨hi2, h⟩ := h
      refine zw_iald hx hb hK hP kM_4 hi2 dX6_answerOf_40 ?_
      refine zc_i (zc_runS (As := [.ref (ad 7), .int b2, .int (μ.1 4 (b1 : Int32).toNatClampNeg)]) (rest := []) ⟨hx, hb, hml, hown, hts⟩ (c_X6_output l D cc A ad rs 7 kM_7 b2 (μ.1 4 (b1 : Int32).toNatClampNeg) μ _ h) (va_cwS 3 hts gX6_answerOf_X6_output rfl rfl rfl (by decide +kernel) ⟨Nat.le_of_ble_eq_true rfl, Nat.le_of_ble_eq_true rfl⟩) hK hN hP hD rfl hl.1 rfl (Nat.le_of_ble_eq_true rfl) dX6_answerOf_41 ⟨Nat.zero_le _, Nat.zero_le _⟩) hS (fun r3 μ4 H locs h hP hD hS => ?_)
      exact W.iret (v := r3) hx hb hr (fun t ht hW => ⟨⟨r3, μ4, rfl, h, PW.to hK hN hP hD t ht hW⟩, hS.F ht⟩) hS.2.2 dX6_answerOf_44
    · have h := h.2 c1
      refine lv_aload_n hx hb dX6_answerOf_9 rfl (lv_at hl 0 rfl) ?_
      refine zw_get (C := RX6) (T := TX6) (M := 22) (v := .ref (ad 7)) hx hb hts hi_X6 hown hK hP kM_0 rfl 10 (by decide) hw0 rfl dX6_answerOf_10 ?_
      refine lv_iload_n hx hb dX6_answerOf_13 rfl (lv_at hl 2 rfl) ?_
      refine lv_aload_n hx hb dX6_answerOf_14 rfl (lv_at hl 0 rfl) ?_
      refine zw_get (C := RX6) (T := TX6) (M := 22) (v := .ref (ad 4)) hx hb hts hi_X6 hown hK hP kM_0 rfl 3 (by decide) hw1 rfl dX6_answerOf_15 ?_
      refine lv_iload_n hx hb dX6_answerOf_18 rfl (lv_at hl 3 rfl) ?_
      obtain ⟨hi5, h⟩ := h
      refine zw_iald hx hb hK hP kM_4 hi5 dX6_answerOf_19 ?_
      refine zc_i (zc_runS (As := [.ref (ad 7), .int b2, .int (μ.1 4 (b3 : Int32).toNatClampNeg)]) (rest := []) ⟨hx, hb, hml, hown, hts⟩ (c_X6_next l D cc A ad rs 7 kM_7 b2 (μ.1 4 (b3 : Int32).toNatClampNeg) μ _ h) (va_cwS 3 hts gX6_answerOf_X6_next rfl rfl rfl (by decide +kernel) ⟨Nat.le_of_ble_eq_true rfl, Nat.le_of_ble_eq_true rfl⟩) hK hN hP hD rfl hl.1 rfl (Nat.le_of_ble_eq_true rfl) dX6_answerOf_20 ⟨Nat.zero_le _, Nat.zero_le _⟩) hS (fun r6 μ7 H locs h hP hD hS => ?_)
      refine lv_istore_n (lv' := [(2, .int r6), (0, .ref (ad 0)), (1, .int b1), (3, .int b3)]) hx hb dX6_answerOf_23 rfl hl (by decide) rfl (fun ls hl => ?_)
      obtain ⟨y8, ey8⟩ : ∃ y : Int32, y = b3 + 1 := ⟨_, rfl⟩
      have h := h y8 ey8
      refine lv_iinc (v := y8) (lv' := [(3, .int y8), (2, .int r6), (0, .ref (ad 0)), (1, .int b1)]) hx hb dX6_answerOf_24 hl (k := 3) rfl (by rw [ey8]; rfl) (by decide) rfl (fun ls hl => ?_)
      refine lv_goto (tgt := 4) hx hb dX6_answerOf_27 (by decide) ?_
      exact h _ _ _ hP hD hS (lv_sub hl [2, 3, 1, 0] rfl)
set_option maxHeartbeats 4000000 in
set_option maxRecDepth 100000 in
theorem c_X6_answer (l : Launch) (D : va_G) (cc : Nat → ClassId) (A : Nat → Prop) (ad : Nat → Nat) (rs : va_W) (x1 : Int32) (x2 : Int32) (μ : Mem) (K : Int32 → Mem → Prop) (h : f_X6_answer x1 x2 μ K) : Met l yX6_answer wsX6_answer ({ frames := 5, cells := 0, slots := 0, locals := 107 }) (va_Pc [.ref (ad 0), .int x1, .int x2] (PW shM 18 D cc A ad rs μ)) (va_Qi K (PW shM 18 D cc A ad rs) A) 0 0 A := by
  refine Met.ofW (cc := cX6_answer) (maxL := 3) (ret := (some .int)) (by decide) rfl ?_
  intro p e s m args below meth c s₁ BB hml hv
  obtain ⟨rfl, hP, hK, hD, hN⟩ := hv
  have hx := BB.exec
  have hb := BB.bytes
  have hr := BB.returns
  have hts := atoms_spec (ws := wsX6_answer) BB.pre
  have hown : s.vm.findClass RX6 = some m.cls := findClass_of_methodNamed BB.named
  have hlocks := BB.notSynchronized
  have hi_X6 : ∀ w ∈ u_ws RX6 TX6 22, w ∈ wsX6_answer := by decide +kernel
  have hw0 := hts (.fieldLink RX6 7 "FeatureClashesModel" "v" "[I") (by decide +kernel)
  have hw1 := hts (.fieldLink RX6 70 "FeatureClashesModel" "letters" "I") (by decide +kernel)
  have hw2 := hts (.fieldLink RX6 29 "FeatureClashesModel" "one" "[I") (by decide +kernel)
  have hS : va_S A s.heap s.heap [] := va_S.rf
  have hl := lv_entry ([.ref (ad 0), .int x1, .int x2]) (n := 3) (Nat.le_of_ble_eq_true rfl)
  rw [lg_entry_eq]
  generalize (lg_sl ([.ref (ad 0), .int x1, .int x2]) ++ List.replicate (3 - (lg_sl ([.ref (ad 0), .int x1, .int x2])).length) Slot.unset).toArray = ls at hl ⊢
  have hl : lv_has ls 3 [(0, .ref (ad 0)), (1, .int x1), (2, .int x2)] := hl
  unfold f_X6_answer at h
  refine (fun h => ?main) (h (fun b1 b2 μ => ∀ (H1 : Heap) (locs : List Loc) (ls : Array Slot), va_P D vwCl (wW shM 18 cc ad μ ++ rs) H1 → va_D A (wW shM 18 cc ad μ ++ rs) → va_S A s.heap H1 locs → lv_has ls 3 [(0, .ref (ad 0)), (1, .int b1), (2, .int b2)] → W p l e (headSpec wsX6_answer ({ frames := 5, cells := 0, slots := 0, locals := 107 })).room s m ([.ref (ad 0), .int x1, .int x2] : List Value).toArray below meth c H1 locs 0 0 (MQ below (va_Qi K (PW shM 18 D cc A ad rs) A) ([.ref (ad 0), .int x1, .int x2] : List Value).toArray s 0 0 A) (F0 m 56 ls ([]))) (fun b2 μ => ∀ (H1 : Heap) (locs : List Loc) (ls : Array Slot), va_P D vwCl (wW shM 18 cc ad μ ++ rs) H1 → va_D A (wW shM 18 cc ad μ ++ rs) → va_S A s.heap H1 locs → lv_has ls 3 [(0, .ref (ad 0)), (2, .int b2)] → W p l e (headSpec wsX6_answer ({ frames := 5, cells := 0, slots := 0, locals := 107 })).room s m ([.ref (ad 0), .int x1, .int x2] : List Value).toArray below meth c H1 locs 0 0 (MQ below (va_Qi K (PW shM 18 D cc A ad rs) A) ([.ref (ad 0), .int x1, .int x2] : List Value).toArray s 0 0 A) (F0 m 69 ls ([]))) ?b56 ?b69)
  case main =>
      refine lv_iload_n hx hb dX6_answer_0 rfl (lv_at hl 1 rfl) ?_
      refine lv_bipush (v := (-2)) hx hb dX6_answer_1 (by decide) ?_
      refine lv_aload_n hx hb dX6_answer_3 rfl (lv_at hl 0 rfl) ?_
      refine zw_get (C := RX6) (T := TX6) (M := 22) (v := .ref (ad 1)) hx hb hts hi_X6 hown hK hP kM_0 rfl 0 (by decide) hw0 rfl dX6_answer_4 ?_
      refine lv_bipush (v := 34) hx hb dX6_answer_7 (by decide) ?_
      obtain ⟨hi1, h⟩ := h
      refine zw_iald hx hb hK hP kM_1 hi1 dX6_answer_9 ?_
      refine lv_iconst (v := 1) hx hb dX6_answer_10 (by decide) ?_
      refine lv_isub hx hb dX6_answer_11 ?_
      refine zc_i (zc_runS (As := [.int x1, .int (-2), .int ((μ.1 1 (34 : Int32).toNatClampNeg) - 1)]) (rest := []) ⟨hx, hb, hml, hown, hts⟩ (c_X6_in l D cc A ad rs x1 (-2) ((μ.1 1 (34 : Int32).toNatClampNeg) - 1) μ _ h) (va_cwS 3 hts gX6_answer_X6_in rfl rfl rfl (by decide +kernel) ⟨Nat.le_of_ble_eq_true rfl, Nat.le_of_ble_eq_true rfl⟩) hK hN hP hD rfl hl.1 rfl (Nat.le_of_ble_eq_true rfl) dX6_answer_12 ⟨Nat.zero_le _, Nat.zero_le _⟩) hS (fun r2 μ3 H locs h hP hD hS => ?_)
      refine lv_if_eq (tgt := 22) hx hb dX6_answer_15 (by decide) (fun c4 => ?_) (fun c4 => ?_)
      · have h := h.1 c4
        refine lv_iconst (v := (-1)) hx hb dX6_answer_22 (by decide) ?_
        exact W.iret (v := (-1)) hx hb hr (fun t ht hW => ⟨⟨(-1), μ3, rfl, h, PW.to hK hN hP hD t ht hW⟩, hS.F ht⟩) hS.2.2 dX6_answer_23
      · have h := h.2 c4
        refine lv_iload_n hx hb dX6_answer_18 rfl (lv_at hl 2 rfl) ?_
        refine lv_if_ge (tgt := 24) hx hb dX6_answer_19 (by decide) (fun c5 => ?_) (fun c5 => ?_)
        · have h := h.1 c5
          refine lv_iload_n hx hb dX6_answer_24 rfl (lv_at hl 2 rfl) ?_
          refine lv_aload_n hx hb dX6_answer_25 rfl (lv_at hl 0 rfl) ?_
          refine zw_get (C := RX6) (T := TX6) (M := 22) (v := .int (μ3.1 0 4)) hx hb hts hi_X6 hown hK hP kM_0 rfl 4 (by decide) hw1 rfl dX6_answer_26 ?_
          refine lv_icmp_lt (tgt := 35) hx hb dX6_answer_29 (by decide) (fun c6 => ?_) (fun c6 => ?_)
          · have h := h.1 c6
            refine lv_iload_n hx hb dX6_answer_35 rfl (lv_at hl 1 rfl) ?_
            refine lv_bipush (v := (-2)) hx hb dX6_answer_36 (by decide) ?_
            refine lv_icmp_ne (tgt := 48) hx hb dX6_answer_38 (by decide) (fun c7 => ?_) (fun c7 => ?_)
            · have h := h.1 c7
              refine lv_aload_n hx hb dX6_answer_48 rfl (lv_at hl 0 rfl) ?_
              refine lv_aload_n hx hb dX6_answer_49 rfl (lv_at hl 0 rfl) ?_
              refine zw_get (C := RX6) (T := TX6) (M := 22) (v := .ref (ad 7)) hx hb hts hi_X6 hown hK hP kM_0 rfl 10 (by decide) hw2 rfl dX6_answer_50 ?_
              refine zc_v (zc_runV (As := [.ref (ad 7)]) (rest := []) ⟨hx, hb, hml, hown, hts⟩ (c_X6_base l D cc A ad rs 7 kM_7 μ3 _ h) (cwV 1 hts gX6_answer_X6_base rfl rfl rfl (by decide +kernel) ⟨Nat.le_of_ble_eq_true rfl, Nat.le_of_ble_eq_true rfl⟩) kM_0 rfl hK hN hP hD rfl hl.1 rfl (Nat.le_of_ble_eq_true rfl) dX6_answer_53 ⟨Nat.zero_le _, Nat.zero_le _⟩) hS (fun μ9 H locs h hP hD hS => ?_)
              exact h _ _ _ hP hD hS (lv_sub hl [0, 1, 2] rfl)
            · have h := h.2 c7
              refine lv_aload_n hx hb dX6_answer_41 rfl (lv_at hl 0 rfl) ?_
              refine zc_v (zc_runV (As := []) (rest := []) ⟨hx, hb, hml, hown, hts⟩ (c_X6_findResolvedMachine l D cc A ad rs  μ3 _ h) (cwV 0 hts gX6_answer_X6_findResolvedMachine rfl rfl rfl (by decide +kernel) ⟨Nat.le_of_ble_eq_true rfl, Nat.le_of_ble_eq_true rfl⟩) kM_0 rfl hK hN hP hD rfl hl.1 rfl (Nat.le_of_ble_eq_true rfl) dX6_answer_42 ⟨Nat.zero_le _, Nat.zero_le _⟩) hS (fun μ11 H locs h hP hD hS => ?_)
              refine lv_goto (tgt := 56) hx hb dX6_answer_45 (by decide) ?_
              exact h _ _ _ hP hD hS (lv_sub hl [0, 1, 2] rfl)
          · have h := h.2 c6
            refine lv_bipush (v := (-5)) hx hb dX6_answer_32 (by decide) ?_
            exact W.iret (v := (-5)) hx hb hr (fun t ht hW => ⟨⟨(-5), μ3, rfl, h, PW.to hK hN hP hD t ht hW⟩, hS.F ht⟩) hS.2.2 dX6_answer_34
        · have h := h.2 c5
          refine lv_iconst (v := (-1)) hx hb dX6_answer_22 (by decide) ?_
          exact W.iret (v := (-1)) hx hb hr (fun t ht hW => ⟨⟨(-1), μ3, rfl, h, PW.to hK hN hP hD t ht hW⟩, hS.F ht⟩) hS.2.2 dX6_answer_23
  case b56 =>
    intro b1 b2 μ h H locs ls hP hD hS hl
    refine lv_iload_n hx hb dX6_answer_56 rfl (lv_at hl 1 rfl) ?_
    refine lv_if_lt (tgt := 69) hx hb dX6_answer_57 (by decide) (fun c12 => ?_) (fun c12 => ?_)
    · have h := h.1 c12
      exact h _ _ _ hP hD hS (lv_sub hl [0, 2] rfl)
    · have h := h.2 c12
      refine lv_aload_n hx hb dX6_answer_60 rfl (lv_at hl 0 rfl) ?_
      refine lv_aload_n hx hb dX6_answer_61 rfl (lv_at hl 0 rfl) ?_
      refine zw_get (C := RX6) (T := TX6) (M := 22) (v := .ref (ad 7)) hx hb hts hi_X6 hown hK hP kM_0 rfl 10 (by decide) hw2 rfl dX6_answer_62 ?_
      refine lv_iload_n hx hb dX6_answer_65 rfl (lv_at hl 1 rfl) ?_
      refine zc_v (zc_runV (As := [.ref (ad 7), .int b1]) (rest := []) ⟨hx, hb, hml, hown, hts⟩ (c_X6_putsOn l D cc A ad rs 7 kM_7 b1 μ _ h) (cwV 2 hts gX6_answer_X6_putsOn rfl rfl rfl (by decide +kernel) ⟨Nat.le_of_ble_eq_true rfl, Nat.le_of_ble_eq_true rfl⟩) kM_0 rfl hK hN hP hD rfl hl.1 rfl (Nat.le_of_ble_eq_true rfl) dX6_answer_66 ⟨Nat.zero_le _, Nat.zero_le _⟩) hS (fun μ14 H locs h hP hD hS => ?_)
      exact h _ _ _ hP hD hS (lv_sub hl [0, 2] rfl)
  case b69 =>
    intro b2 μ h H locs ls hP hD hS hl
    refine lv_aload_n hx hb dX6_answer_69 rfl (lv_at hl 0 rfl) ?_
    refine lv_iload_n hx hb dX6_answer_70 rfl (lv_at hl 1 rfl) ?_
    refine zc_i (zc_runV (As := [.int b2]) (rest := []) ⟨hx, hb, hml, hown, hts⟩ (c_X6_answerOf l D cc A ad rs b2 μ _ h) (cwV 1 hts gX6_answer_X6_answerOf rfl rfl rfl (by decide +kernel) ⟨Nat.le_of_ble_eq_true rfl, Nat.le_of_ble_eq_true rfl⟩) kM_0 rfl hK hN hP hD rfl hl.1 rfl (Nat.le_of_ble_eq_true rfl) dX6_answer_71 ⟨Nat.zero_le _, Nat.zero_le _⟩) hS (fun r15 μ16 H locs h hP hD hS => ?_)
    exact W.iret (v := r15) hx hb hr (fun t ht hW => ⟨⟨r15, μ16, rfl, h, PW.to hK hN hP hD t ht hW⟩, hS.F ht⟩) hS.2.2 dX6_answer_74
set_option maxHeartbeats 4000000 in
set_option maxRecDepth 100000 in
theorem c_X6_effects (l : Launch) (D : va_G) (cc : Nat → ClassId) (A : Nat → Prop) (ad : Nat → Nat) (rs : va_W)  (μ : Mem) (K : Int32 → Mem → Prop) (h : f_X6_effects  μ K) : Met l yX6_effects wsX6_effects ({ frames := 5, cells := 0, slots := 0, locals := 107 }) (va_Pc [.ref (ad 0)] (PW shM 18 D cc A ad rs μ)) (va_Qi K (PW shM 18 D cc A ad rs) A) 0 0 A := by
  refine Met.ofW (cc := cX6_effects) (maxL := 1) (ret := (some .int)) (by decide) rfl ?_
  intro p e s m args below meth c s₁ BB hml hv
  obtain ⟨rfl, hP, hK, hD, hN⟩ := hv
  have hx := BB.exec
  have hb := BB.bytes
  have hr := BB.returns
  have hts := atoms_spec (ws := wsX6_effects) BB.pre
  have hown : s.vm.findClass RX6 = some m.cls := findClass_of_methodNamed BB.named
  have hlocks := BB.notSynchronized
  have hi_X6 : ∀ w ∈ u_ws RX6 TX6 22, w ∈ wsX6_effects := by decide +kernel
  have hw0 := hts (.fieldLink RX6 32 "FeatureClashesModel" "other" "[I") (by decide +kernel)
  have hS : va_S A s.heap s.heap [] := va_S.rf
  have hl := lv_entry ([.ref (ad 0)]) (n := 1) (Nat.le_of_ble_eq_true rfl)
  rw [lg_entry_eq]
  generalize (lg_sl ([.ref (ad 0)]) ++ List.replicate (1 - (lg_sl ([.ref (ad 0)])).length) Slot.unset).toArray = ls at hl ⊢
  have hl : lv_has ls 1 [(0, .ref (ad 0))] := hl
  unfold f_X6_effects at h
  refine lv_aload_n hx hb dX6_effects_0 rfl (lv_at hl 0 rfl) ?_
  refine zc_v (zc_runV (As := []) (rest := []) ⟨hx, hb, hml, hown, hts⟩ (c_X6_findResolvedMachine l D cc A ad rs  μ _ h) (cwV 0 hts gX6_effects_X6_findResolvedMachine rfl rfl rfl (by decide +kernel) ⟨Nat.le_of_ble_eq_true rfl, Nat.le_of_ble_eq_true rfl⟩) kM_0 rfl hK hN hP hD rfl hl.1 rfl (Nat.le_of_ble_eq_true rfl) dX6_effects_1 ⟨Nat.zero_le _, Nat.zero_le _⟩) hS (fun μ2 H locs h hP hD hS => ?_)
  refine lv_aload_n hx hb dX6_effects_4 rfl (lv_at hl 0 rfl) ?_
  refine lv_aload_n hx hb dX6_effects_5 rfl (lv_at hl 0 rfl) ?_
  refine zw_get (C := RX6) (T := TX6) (M := 22) (v := .ref (ad 8)) hx hb hts hi_X6 hown hK hP kM_0 rfl 11 (by decide) hw0 rfl dX6_effects_6 ?_
  refine zc_v (zc_runV (As := [.ref (ad 8)]) (rest := []) ⟨hx, hb, hml, hown, hts⟩ (c_X6_base l D cc A ad rs 8 kM_8 μ2 _ h) (cwV 1 hts gX6_effects_X6_base rfl rfl rfl (by decide +kernel) ⟨Nat.le_of_ble_eq_true rfl, Nat.le_of_ble_eq_true rfl⟩) kM_0 rfl hK hN hP hD rfl hl.1 rfl (Nat.le_of_ble_eq_true rfl) dX6_effects_9 ⟨Nat.zero_le _, Nat.zero_le _⟩) hS (fun μ4 H locs h hP hD hS => ?_)
  refine lv_aload_n hx hb dX6_effects_12 rfl (lv_at hl 0 rfl) ?_
  refine zc_i (zc_runV (As := []) (rest := []) ⟨hx, hb, hml, hown, hts⟩ (c_X6_findApart l D cc A ad rs  μ4 _ h) (cwV 0 hts gX6_effects_X6_findApart rfl rfl rfl (by decide +kernel) ⟨Nat.le_of_ble_eq_true rfl, Nat.le_of_ble_eq_true rfl⟩) kM_0 rfl hK hN hP hD rfl hl.1 rfl (Nat.le_of_ble_eq_true rfl) dX6_effects_13 ⟨Nat.zero_le _, Nat.zero_le _⟩) hS (fun r5 μ6 H locs h hP hD hS => ?_)
  exact W.iret (v := r5) hx hb hr (fun t ht hW => ⟨⟨r5, μ6, rfl, h, PW.to hK hN hP hD t ht hW⟩, hS.F ht⟩) hS.2.2 dX6_effects_16
set_option maxHeartbeats 4000000 in
set_option maxRecDepth 100000 in
theorem c_X6_effect (l : Launch) (D : va_G) (cc : Nat → ClassId) (A : Nat → Prop) (ad : Nat → Nat) (rs : va_W) (x1 : Int32) (μ : Mem) (K : Int32 → Mem → Prop) (h : f_X6_effect x1 μ K) : Met l yX6_effect wsX6_effect ({ frames := 6, cells := 0, slots := 0, locals := 127 }) (va_Pc [.ref (ad 0), .int x1] (PW shM 18 D cc A ad rs μ)) (va_Qi K (PW shM 18 D cc A ad rs) A) 0 0 A := by
  refine Met.ofW (cc := cX6_effect) (maxL := 2) (ret := (some .int)) (by decide) rfl ?_
  intro p e s m args below meth c s₁ BB hml hv
  obtain ⟨rfl, hP, hK, hD, hN⟩ := hv
  have hx := BB.exec
  have hb := BB.bytes
  have hr := BB.returns
  have hts := atoms_spec (ws := wsX6_effect) BB.pre
  have hown : s.vm.findClass RX6 = some m.cls := findClass_of_methodNamed BB.named
  have hlocks := BB.notSynchronized
  have hi_X6 : ∀ w ∈ u_ws RX6 TX6 22, w ∈ wsX6_effect := by decide +kernel
  have hw0 := hts (.fieldLink RX6 47 "FeatureClashesModel" "apart" "[I") (by decide +kernel)
  have hS : va_S A s.heap s.heap [] := va_S.rf
  have hl := lv_entry ([.ref (ad 0), .int x1]) (n := 2) (Nat.le_of_ble_eq_true rfl)
  rw [lg_entry_eq]
  generalize (lg_sl ([.ref (ad 0), .int x1]) ++ List.replicate (2 - (lg_sl ([.ref (ad 0), .int x1])).length) Slot.unset).toArray = ls at hl ⊢
  have hl : lv_has ls 2 [(0, .ref (ad 0)), (1, .int x1)] := hl
  unfold f_X6_effect at h
  refine lv_iload_n hx hb dX6_effect_0 rfl (lv_at hl 1 rfl) ?_
  refine lv_if_ge (tgt := 6) hx hb dX6_effect_1 (by decide) (fun c1 => ?_) (fun c1 => ?_)
  · have h := h.1 c1
    refine lv_iload_n hx hb dX6_effect_6 rfl (lv_at hl 1 rfl) ?_
    refine lv_aload_n hx hb dX6_effect_7 rfl (lv_at hl 0 rfl) ?_
    refine zc_i (zc_runV (As := []) (rest := [.int x1]) ⟨hx, hb, hml, hown, hts⟩ (c_X6_effects l D cc A ad rs  μ _ h) (cwV 0 hts gX6_effect_X6_effects rfl rfl rfl (by decide +kernel) ⟨Nat.le_of_ble_eq_true rfl, Nat.le_of_ble_eq_true rfl⟩) kM_0 rfl hK hN hP hD rfl hl.1 rfl (Nat.le_of_ble_eq_true rfl) dX6_effect_8 ⟨Nat.zero_le _, Nat.zero_le _⟩) hS (fun r2 μ3 H locs h hP hD hS => ?_)
    refine lv_icmp_ge (tgt := 23) hx hb dX6_effect_11 (by decide) (fun c4 => ?_) (fun c4 => ?_)
    · have h := h.1 c4
      refine lv_bipush (v := (-5)) hx hb dX6_effect_23 (by decide) ?_
      exact W.iret (v := (-5)) hx hb hr (fun t ht hW => ⟨⟨(-5), μ3, rfl, h, PW.to hK hN hP hD t ht hW⟩, hS.F ht⟩) hS.2.2 dX6_effect_25
    · have h := h.2 c4
      refine lv_aload_n hx hb dX6_effect_14 rfl (lv_at hl 0 rfl) ?_
      refine zw_get (C := RX6) (T := TX6) (M := 22) (v := .ref (ad 13)) hx hb hts hi_X6 hown hK hP kM_0 rfl 16 (by decide) hw0 rfl dX6_effect_15 ?_
      refine lv_iload_n hx hb dX6_effect_18 rfl (lv_at hl 1 rfl) ?_
      obtain ⟨hi5, h⟩ := h
      refine zw_iald hx hb hK hP kM_13 hi5 dX6_effect_19 ?_
      refine lv_goto (tgt := 25) hx hb dX6_effect_20 (by decide) ?_
      exact W.iret (v := μ3.1 13 (x1 : Int32).toNatClampNeg) hx hb hr (fun t ht hW => ⟨⟨μ3.1 13 (x1 : Int32).toNatClampNeg, μ3, rfl, h, PW.to hK hN hP hD t ht hW⟩, hS.F ht⟩) hS.2.2 dX6_effect_25
  · have h := h.2 c1
    refine lv_iconst (v := (-1)) hx hb dX6_effect_4 (by decide) ?_
    exact W.iret (v := (-1)) hx hb hr (fun t ht hW => ⟨⟨(-1), μ, rfl, h, PW.to hK hN hP hD t ht hW⟩, hS.F ht⟩) hS.2.2 dX6_effect_5
set_option maxHeartbeats 4000000 in
set_option maxRecDepth 100000 in
theorem c_X6_save (l : Launch) (D : va_G) (cc : Nat → ClassId) (A : Nat → Prop) (ad : Nat → Nat) (rs : va_W) (x1 : Int32) (μ : Mem) (K : Int32 → Mem → Prop) (h : f_X6_save x1 μ K) : Met l yX6_save wsX6_save ({ frames := 1, cells := 0, slots := 0, locals := 22 }) (va_Pc [.ref (ad 0), .int x1] (PW shM 18 D cc A ad rs μ)) (va_Qi K (PW shM 18 D cc A ad rs) A) 0 0 A := by
  refine Met.ofW (cc := cX6_save) (maxL := 3) (ret := (some .int)) (by decide) rfl ?_
  intro p e s m args below meth c s₁ BB hml hv
  obtain ⟨rfl, hP, hK, hD, hN⟩ := hv
  have hx := BB.exec
  have hb := BB.bytes
  have hr := BB.returns
  have hts := atoms_spec (ws := wsX6_save) BB.pre
  have hown : s.vm.findClass RX6 = some m.cls := findClass_of_methodNamed BB.named
  have hlocks := BB.notSynchronized
  have hi_X6 : ∀ w ∈ u_ws RX6 TX6 22, w ∈ wsX6_save := by decide +kernel
  have hw0 := hts (.fieldLink RX6 16 "FeatureClashesModel" "isKept" "[Z") (by decide +kernel)
  have hw1 := hts (.fieldLink RX6 7 "FeatureClashesModel" "v" "[I") (by decide +kernel)
  have hw2 := hts (.fieldLink RX6 13 "FeatureClashesModel" "kept" "[I") (by decide +kernel)
  have hS : va_S A s.heap s.heap [] := va_S.rf
  have hl := lv_entry ([.ref (ad 0), .int x1]) (n := 3) (Nat.le_of_ble_eq_true rfl)
  rw [lg_entry_eq]
  generalize (lg_sl ([.ref (ad 0), .int x1]) ++ List.replicate (3 - (lg_sl ([.ref (ad 0), .int x1])).length) Slot.unset).toArray = ls at hl ⊢
  have hl : lv_has ls 3 [(0, .ref (ad 0)), (1, .int x1)] := hl
  unfold f_X6_save at h
  refine (fun h => ?main) (h (fun b1 b2 μ => ∀ (H1 : Heap) (locs : List Loc) (ls : Array Slot), va_P D vwCl (wW shM 18 cc ad μ ++ rs) H1 → va_D A (wW shM 18 cc ad μ ++ rs) → va_S A s.heap H1 locs → lv_has ls 3 [(0, .ref (ad 0)), (1, .int b1), (2, .int b2)] → W p l e (headSpec wsX6_save ({ frames := 1, cells := 0, slots := 0, locals := 22 })).room s m ([.ref (ad 0), .int x1] : List Value).toArray below meth c H1 locs 0 0 (MQ below (va_Qi K (PW shM 18 D cc A ad rs) A) ([.ref (ad 0), .int x1] : List Value).toArray s 0 0 A) (F0 m 13 ls ([]))) ?b13)
  case main =>
      refine lv_iload_n hx hb dX6_save_0 rfl (lv_at hl 1 rfl) ?_
      refine lv_iconst (v := 0) hx hb dX6_save_1 (by decide) ?_
      refine lv_iconst (v := 1) hx hb dX6_save_2 (by decide) ?_
      refine zc_i (zc_runS (As := [.int x1, .int 0, .int 1]) (rest := []) ⟨hx, hb, hml, hown, hts⟩ (c_X6_in l D cc A ad rs x1 0 1 μ _ h) (va_cwS 3 hts gX6_save_X6_in rfl rfl rfl (by decide +kernel) ⟨Nat.le_of_ble_eq_true rfl, Nat.le_of_ble_eq_true rfl⟩) hK hN hP hD rfl hl.1 rfl (Nat.le_of_ble_eq_true rfl) dX6_save_3 ⟨Nat.zero_le _, Nat.zero_le _⟩) hS (fun r1 μ2 H locs h hP hD hS => ?_)
      refine lv_if_ne (tgt := 11) hx hb dX6_save_6 (by decide) (fun c3 => ?_) (fun c3 => ?_)
      · have h := h.1 c3
        refine lv_iconst (v := 0) hx hb dX6_save_11 (by decide) ?_
        refine lv_istore_n (lv' := [(2, .int 0), (0, .ref (ad 0)), (1, .int x1)]) hx hb dX6_save_12 rfl hl (by decide) rfl (fun ls hl => ?_)
        exact h _ _ _ hP hD hS (lv_sub hl [1, 2, 0] rfl)
      · have h := h.2 c3
        refine lv_iconst (v := (-1)) hx hb dX6_save_9 (by decide) ?_
        exact W.iret (v := (-1)) hx hb hr (fun t ht hW => ⟨⟨(-1), μ2, rfl, h, PW.to hK hN hP hD t ht hW⟩, hS.F ht⟩) hS.2.2 dX6_save_10
  case b13 =>
    intro b1 b2 μ h H locs ls hP hD hS hl
    refine lv_iload_n hx hb dX6_save_13 rfl (lv_at hl 2 rfl) ?_
    refine lv_sipush (v := 239) hx hb dX6_save_14 (by decide) ?_
    refine lv_icmp_ge (tgt := 44) hx hb dX6_save_17 (by decide) (fun c4 => ?_) (fun c4 => ?_)
    · have h := h.1 c4
      refine lv_aload_n hx hb dX6_save_44 rfl (lv_at hl 0 rfl) ?_
      refine zw_get (C := RX6) (T := TX6) (M := 22) (v := .ref (ad 3)) hx hb hts hi_X6 hown hK hP kM_0 rfl 2 (by decide) hw0 rfl dX6_save_45 ?_
      refine lv_iload_n hx hb dX6_save_48 rfl (lv_at hl 1 rfl) ?_
      refine lv_iconst (v := 1) hx hb dX6_save_49 (by decide) ?_
      obtain ⟨hi5, h⟩ := h
      refine zw_zast hx hb hK hP hD hS kM_3 hi5 dX6_save_50 (fun μ6 H locs eμ6 hP hD hS => ?_)
      have h := h μ6 eμ6
      refine lv_aload_n hx hb dX6_save_51 rfl (lv_at hl 0 rfl) ?_
      refine zw_get (C := RX6) (T := TX6) (M := 22) (v := .ref (ad 1)) hx hb hts hi_X6 hown hK hP kM_0 rfl 0 (by decide) hw1 rfl dX6_save_52 ?_
      refine lv_bipush (v := 34) hx hb dX6_save_55 (by decide) ?_
      obtain ⟨hi7, h⟩ := h
      refine zw_iald hx hb hK hP kM_1 hi7 dX6_save_57 ?_
      exact W.iret (v := μ6.1 1 (34 : Int32).toNatClampNeg) hx hb hr (fun t ht hW => ⟨⟨μ6.1 1 (34 : Int32).toNatClampNeg, μ6, rfl, h, PW.to hK hN hP hD t ht hW⟩, hS.F ht⟩) hS.2.2 dX6_save_58
    · have h := h.2 c4
      refine lv_aload_n hx hb dX6_save_20 rfl (lv_at hl 0 rfl) ?_
      refine zw_get (C := RX6) (T := TX6) (M := 22) (v := .ref (ad 2)) hx hb hts hi_X6 hown hK hP kM_0 rfl 1 (by decide) hw2 rfl dX6_save_21 ?_
      refine lv_sipush (v := 239) hx hb dX6_save_24 (by decide) ?_
      refine lv_iload_n hx hb dX6_save_27 rfl (lv_at hl 1 rfl) ?_
      refine lv_imul hx hb dX6_save_28 ?_
      refine lv_iload_n hx hb dX6_save_29 rfl (lv_at hl 2 rfl) ?_
      refine lv_iadd hx hb dX6_save_30 ?_
      refine lv_aload_n hx hb dX6_save_31 rfl (lv_at hl 0 rfl) ?_
      refine zw_get (C := RX6) (T := TX6) (M := 22) (v := .ref (ad 1)) hx hb hts hi_X6 hown hK hP kM_0 rfl 0 (by decide) hw1 rfl dX6_save_32 ?_
      refine lv_iload_n hx hb dX6_save_35 rfl (lv_at hl 2 rfl) ?_
      obtain ⟨hi8, h⟩ := h
      refine zw_iald hx hb hK hP kM_1 hi8 dX6_save_36 ?_
      obtain ⟨hi9, h⟩ := h
      refine zw_iast hx hb hK hP hD hS kM_2 hi9 dX6_save_37 (fun μ10 H locs eμ10 hP hD hS => ?_)
      have h := h μ10 eμ10
      obtain ⟨y11, ey11⟩ : ∃ y : Int32, y = b2 + 1 := ⟨_, rfl⟩
      have h := h y11 ey11
      refine lv_iinc (v := y11) (lv' := [(2, .int y11), (0, .ref (ad 0)), (1, .int b1)]) hx hb dX6_save_38 hl (k := 2) rfl (by rw [ey11]; rfl) (by decide) rfl (fun ls hl => ?_)
      refine lv_goto (tgt := 13) hx hb dX6_save_41 (by decide) ?_
      exact h _ _ _ hP hD hS (lv_sub hl [1, 2, 0] rfl)
set_option maxHeartbeats 4000000 in
set_option maxRecDepth 100000 in
theorem c_X6_restore (l : Launch) (D : va_G) (cc : Nat → ClassId) (A : Nat → Prop) (ad : Nat → Nat) (rs : va_W) (x1 : Int32) (μ : Mem) (K : Int32 → Mem → Prop) (h : f_X6_restore x1 μ K) : Met l yX6_restore wsX6_restore ({ frames := 1, cells := 0, slots := 0, locals := 22 }) (va_Pc [.ref (ad 0), .int x1] (PW shM 18 D cc A ad rs μ)) (va_Qi K (PW shM 18 D cc A ad rs) A) 0 0 A := by
  refine Met.ofW (cc := cX6_restore) (maxL := 3) (ret := (some .int)) (by decide) rfl ?_
  intro p e s m args below meth c s₁ BB hml hv
  obtain ⟨rfl, hP, hK, hD, hN⟩ := hv
  have hx := BB.exec
  have hb := BB.bytes
  have hr := BB.returns
  have hts := atoms_spec (ws := wsX6_restore) BB.pre
  have hown : s.vm.findClass RX6 = some m.cls := findClass_of_methodNamed BB.named
  have hlocks := BB.notSynchronized
  have hi_X6 : ∀ w ∈ u_ws RX6 TX6 22, w ∈ wsX6_restore := by decide +kernel
  have hw0 := hts (.fieldLink RX6 16 "FeatureClashesModel" "isKept" "[Z") (by decide +kernel)
  have hw1 := hts (.fieldLink RX6 70 "FeatureClashesModel" "letters" "I") (by decide +kernel)
  have hw2 := hts (.fieldLink RX6 7 "FeatureClashesModel" "v" "[I") (by decide +kernel)
  have hw3 := hts (.fieldLink RX6 13 "FeatureClashesModel" "kept" "[I") (by decide +kernel)
  have hS : va_S A s.heap s.heap [] := va_S.rf
  have hl := lv_entry ([.ref (ad 0), .int x1]) (n := 3) (Nat.le_of_ble_eq_true rfl)
  rw [lg_entry_eq]
  generalize (lg_sl ([.ref (ad 0), .int x1]) ++ List.replicate (3 - (lg_sl ([.ref (ad 0), .int x1])).length) Slot.unset).toArray = ls at hl ⊢
  have hl : lv_has ls 3 [(0, .ref (ad 0)), (1, .int x1)] := hl
  unfold f_X6_restore at h
  refine (fun h => ?main) (h (fun b1 b2 μ => ∀ (H1 : Heap) (locs : List Loc) (ls : Array Slot), va_P D vwCl (wW shM 18 cc ad μ ++ rs) H1 → va_D A (wW shM 18 cc ad μ ++ rs) → va_S A s.heap H1 locs → lv_has ls 3 [(0, .ref (ad 0)), (1, .int b1), (2, .int b2)] → W p l e (headSpec wsX6_restore ({ frames := 1, cells := 0, slots := 0, locals := 22 })).room s m ([.ref (ad 0), .int x1] : List Value).toArray below meth c H1 locs 0 0 (MQ below (va_Qi K (PW shM 18 D cc A ad rs) A) ([.ref (ad 0), .int x1] : List Value).toArray s 0 0 A) (F0 m 25 ls ([]))) ?b25)
  case main =>
      refine lv_iload_n hx hb dX6_restore_0 rfl (lv_at hl 1 rfl) ?_
      refine lv_iconst (v := 0) hx hb dX6_restore_1 (by decide) ?_
      refine lv_iconst (v := 1) hx hb dX6_restore_2 (by decide) ?_
      refine zc_i (zc_runS (As := [.int x1, .int 0, .int 1]) (rest := []) ⟨hx, hb, hml, hown, hts⟩ (c_X6_in l D cc A ad rs x1 0 1 μ _ h) (va_cwS 3 hts gX6_restore_X6_in rfl rfl rfl (by decide +kernel) ⟨Nat.le_of_ble_eq_true rfl, Nat.le_of_ble_eq_true rfl⟩) hK hN hP hD rfl hl.1 rfl (Nat.le_of_ble_eq_true rfl) dX6_restore_3 ⟨Nat.zero_le _, Nat.zero_le _⟩) hS (fun r1 μ2 H locs h hP hD hS => ?_)
      refine lv_if_ne (tgt := 11) hx hb dX6_restore_6 (by decide) (fun c3 => ?_) (fun c3 => ?_)
      · have h := h.1 c3
        refine lv_aload_n hx hb dX6_restore_11 rfl (lv_at hl 0 rfl) ?_
        refine zw_get (C := RX6) (T := TX6) (M := 22) (v := .ref (ad 3)) hx hb hts hi_X6 hown hK hP kM_0 rfl 2 (by decide) hw0 rfl dX6_restore_12 ?_
        refine lv_iload_n hx hb dX6_restore_15 rfl (lv_at hl 1 rfl) ?_
        obtain ⟨hi4, h⟩ := h
        refine zw_zald hx hb hK hP kM_3 hi4 dX6_restore_16 ?_
        refine lv_if_ne (tgt := 23) hx hb dX6_restore_17 (by decide) (fun c5 => ?_) (fun c5 => ?_)
        · have h := h.1 c5
          refine lv_iconst (v := 0) hx hb dX6_restore_23 (by decide) ?_
          refine lv_istore_n (lv' := [(2, .int 0), (0, .ref (ad 0)), (1, .int x1)]) hx hb dX6_restore_24 rfl hl (by decide) rfl (fun ls hl => ?_)
          exact h _ _ _ hP hD hS (lv_sub hl [1, 2, 0] rfl)
        · have h := h.2 c5
          refine lv_bipush (v := (-3)) hx hb dX6_restore_20 (by decide) ?_
          exact W.iret (v := (-3)) hx hb hr (fun t ht hW => ⟨⟨(-3), μ2, rfl, h, PW.to hK hN hP hD t ht hW⟩, hS.F ht⟩) hS.2.2 dX6_restore_22
      · have h := h.2 c3
        refine lv_iconst (v := (-1)) hx hb dX6_restore_9 (by decide) ?_
        exact W.iret (v := (-1)) hx hb hr (fun t ht hW => ⟨⟨(-1), μ2, rfl, h, PW.to hK hN hP hD t ht hW⟩, hS.F ht⟩) hS.2.2 dX6_restore_10
  case b25 =>
    intro b1 b2 μ h H locs ls hP hD hS hl
    refine lv_iload_n hx hb dX6_restore_25 rfl (lv_at hl 2 rfl) ?_
    refine lv_sipush (v := 239) hx hb dX6_restore_26 (by decide) ?_
    refine lv_icmp_ge (tgt := 56) hx hb dX6_restore_29 (by decide) (fun c6 => ?_) (fun c6 => ?_)
    · have h := h.1 c6
      refine lv_aload_n hx hb dX6_restore_56 rfl (lv_at hl 0 rfl) ?_
      refine lv_iconst (v := 0) hx hb dX6_restore_57 (by decide) ?_
      refine zw_put (C := RX6) (T := TX6) (M := 22) hx hb hts hi_X6 tyX6 tyX6_ok nmX6 hown hK hP hD hS kM_0 rfl 4 (by decide) hw1 rfl rfl (Nat.le_of_ble_eq_true rfl) rfl dX6_restore_58 (fun μ7 H locs eμ7 hP hD hS => ?_)
      have h := h μ7 eμ7
      refine lv_aload_n hx hb dX6_restore_61 rfl (lv_at hl 0 rfl) ?_
      refine zw_get (C := RX6) (T := TX6) (M := 22) (v := .ref (ad 1)) hx hb hts hi_X6 hown hK hP kM_0 rfl 0 (by decide) hw2 rfl dX6_restore_62 ?_
      refine lv_bipush (v := 34) hx hb dX6_restore_65 (by decide) ?_
      obtain ⟨hi8, h⟩ := h
      refine zw_iald hx hb hK hP kM_1 hi8 dX6_restore_67 ?_
      exact W.iret (v := μ7.1 1 (34 : Int32).toNatClampNeg) hx hb hr (fun t ht hW => ⟨⟨μ7.1 1 (34 : Int32).toNatClampNeg, μ7, rfl, h, PW.to hK hN hP hD t ht hW⟩, hS.F ht⟩) hS.2.2 dX6_restore_68
    · have h := h.2 c6
      refine lv_aload_n hx hb dX6_restore_32 rfl (lv_at hl 0 rfl) ?_
      refine zw_get (C := RX6) (T := TX6) (M := 22) (v := .ref (ad 1)) hx hb hts hi_X6 hown hK hP kM_0 rfl 0 (by decide) hw2 rfl dX6_restore_33 ?_
      refine lv_iload_n hx hb dX6_restore_36 rfl (lv_at hl 2 rfl) ?_
      refine lv_aload_n hx hb dX6_restore_37 rfl (lv_at hl 0 rfl) ?_
      refine zw_get (C := RX6) (T := TX6) (M := 22) (v := .ref (ad 2)) hx hb hts hi_X6 hown hK hP kM_0 rfl 1 (by decide) hw3 rfl dX6_restore_38 ?_
      refine lv_sipush (v := 239) hx hb dX6_restore_41 (by decide) ?_
      refine lv_iload_n hx hb dX6_restore_44 rfl (lv_at hl 1 rfl) ?_
      refine lv_imul hx hb dX6_restore_45 ?_
      refine lv_iload_n hx hb dX6_restore_46 rfl (lv_at hl 2 rfl) ?_
      refine lv_iadd hx hb dX6_restore_47 ?_
      obtain ⟨hi9, h⟩ := h
      refine zw_iald hx hb hK hP kM_2 hi9 dX6_restore_48 ?_
      obtain ⟨hi10, h⟩ := h
      refine zw_iast hx hb hK hP hD hS kM_1 hi10 dX6_restore_49 (fun μ11 H locs eμ11 hP hD hS => ?_)
      have h := h μ11 eμ11
      obtain ⟨y12, ey12⟩ : ∃ y : Int32, y = b2 + 1 := ⟨_, rfl⟩
      have h := h y12 ey12
      refine lv_iinc (v := y12) (lv' := [(2, .int y12), (0, .ref (ad 0)), (1, .int b1)]) hx hb dX6_restore_50 hl (k := 2) rfl (by rw [ey12]; rfl) (by decide) rfl (fun ls hl => ?_)
      refine lv_goto (tgt := 25) hx hb dX6_restore_53 (by decide) ?_
      exact h _ _ _ hP hD hS (lv_sub hl [1, 2, 0] rfl)
set_option maxHeartbeats 4000000 in
set_option maxRecDepth 100000 in
theorem c_X6_more (l : Launch) (D : va_G) (cc : Nat → ClassId) (A : Nat → Prop) (ad : Nat → Nat) (rs : va_W) (x0 : Int64) (x2 : Int32) (μ : Mem) (K : Int64 → Mem → Prop) (h : f_X6_more x0 x2 μ K) : Met l yX6_more wsX6_more ({ frames := 0, cells := 0, slots := 0, locals := 0 }) (va_Pc [.long x0, .int x2] (PW shM 18 D cc A ad rs μ)) (va_Ql K (PW shM 18 D cc A ad rs) A) 0 0 A := by
  refine Met.ofW (cc := cX6_more) (maxL := 3) (ret := (some .long)) (by decide) rfl ?_
  intro p e s m args below meth c s₁ BB hml hv
  obtain ⟨rfl, hP, hK, hD, hN⟩ := hv
  have hx := BB.exec
  have hb := BB.bytes
  have hr := BB.returns
  have hts := atoms_spec (ws := wsX6_more) BB.pre
  have hown : s.vm.findClass RX6 = some m.cls := findClass_of_methodNamed BB.named
  have hlocks := BB.notSynchronized
  have hw0 := hts (.constantLong RX6 217 (31)) (by decide +kernel)
  have hS : va_S A s.heap s.heap [] := va_S.rf
  have hl := lv_entry ([.long x0, .int x2]) (n := 3) (Nat.le_of_ble_eq_true rfl)
  rw [lg_entry_eq]
  generalize (lg_sl ([.long x0, .int x2]) ++ List.replicate (3 - (lg_sl ([.long x0, .int x2])).length) Slot.unset).toArray = ls at hl ⊢
  have hl : lv_has ls 3 [(0, .long x0), (2, .int x2)] := hl
  unfold f_X6_more at h
  refine lv_ldc2 (v := 31) hx hb hown hw0 dX6_more_0 ?_
  refine lv_lload_n hx hb dX6_more_3 rfl (lv_at hl 0 rfl) ?_
  refine lv_lmul hx hb dX6_more_4 ?_
  refine lv_iload_n hx hb dX6_more_5 rfl (lv_at hl 1 rfl) ?_
  refine lv_i2l (v := (x2 : Int32).toInt64) hx hb dX6_more_6 rfl ?_
  refine lv_ladd hx hb dX6_more_7 ?_
  exact W.lret (v := (31 * x0) + ((x2 : Int32).toInt64)) hx hb hr (fun t ht hW => ⟨⟨(31 * x0) + ((x2 : Int32).toInt64), μ, rfl, h, PW.to hK hN hP hD t ht hW⟩, hS.F ht⟩) hS.2.2 dX6_more_8
set_option maxHeartbeats 4000000 in
set_option maxRecDepth 100000 in
theorem c_X6_moreApart (l : Launch) (D : va_G) (cc : Nat → ClassId) (A : Nat → Prop) (ad : Nat → Nat) (rs : va_W) (x1 : Int64) (x3 : Int32) (μ : Mem) (K : Int64 → Mem → Prop) (h : f_X6_moreApart x1 x3 μ K) : Met l yX6_moreApart wsX6_moreApart ({ frames := 1, cells := 0, slots := 0, locals := 22 }) (va_Pc [.ref (ad 0), .long x1, .int x3] (PW shM 18 D cc A ad rs μ)) (va_Ql K (PW shM 18 D cc A ad rs) A) 0 0 A := by
  refine Met.ofW (cc := cX6_moreApart) (maxL := 7) (ret := (some .long)) (by decide) rfl ?_
  intro p e s m args below meth c s₁ BB hml hv
  obtain ⟨rfl, hP, hK, hD, hN⟩ := hv
  have hx := BB.exec
  have hb := BB.bytes
  have hr := BB.returns
  have hts := atoms_spec (ws := wsX6_moreApart) BB.pre
  have hown : s.vm.findClass RX6 = some m.cls := findClass_of_methodNamed BB.named
  have hlocks := BB.notSynchronized
  have hi_X6 : ∀ w ∈ u_ws RX6 TX6 22, w ∈ wsX6_moreApart := by decide +kernel
  have hw0 := hts (.fieldLink RX6 47 "FeatureClashesModel" "apart" "[I") (by decide +kernel)
  have hS : va_S A s.heap s.heap [] := va_S.rf
  have hl := lv_entry ([.ref (ad 0), .long x1, .int x3]) (n := 7) (Nat.le_of_ble_eq_true rfl)
  rw [lg_entry_eq]
  generalize (lg_sl ([.ref (ad 0), .long x1, .int x3]) ++ List.replicate (7 - (lg_sl ([.ref (ad 0), .long x1, .int x3])).length) Slot.unset).toArray = ls at hl ⊢
  have hl : lv_has ls 7 [(0, .ref (ad 0)), (1, .long x1), (3, .int x3)] := hl
  unfold f_X6_moreApart at h
  refine (fun h => ?main) (h (fun b3 b4 b6 μ => ∀ (H1 : Heap) (locs : List Loc) (ls : Array Slot), va_P D vwCl (wW shM 18 cc ad μ ++ rs) H1 → va_D A (wW shM 18 cc ad μ ++ rs) → va_S A s.heap H1 locs → lv_has ls 7 [(0, .ref (ad 0)), (3, .int b3), (4, .long b4), (6, .int b6)] → W p l e (headSpec wsX6_moreApart ({ frames := 1, cells := 0, slots := 0, locals := 22 })).room s m ([.ref (ad 0), .long x1, .int x3] : List Value).toArray below meth c H1 locs 0 0 (MQ below (va_Ql K (PW shM 18 D cc A ad rs) A) ([.ref (ad 0), .long x1, .int x3] : List Value).toArray s 0 0 A) (F0 m 6 ls ([]))) ?b6)
  case main =>
      refine lv_lload_n hx hb dX6_moreApart_0 rfl (lv_at hl 1 rfl) ?_
      refine lv_lstore (lv' := [(4, .long x1), (0, .ref (ad 0)), (1, .long x1), (3, .int x3)]) hx hb dX6_moreApart_1 hl (by decide) rfl (fun ls hl => ?_)
      refine lv_iconst (v := 0) hx hb dX6_moreApart_3 (by decide) ?_
      refine lv_istore (lv' := [(6, .int 0), (4, .long x1), (0, .ref (ad 0)), (1, .long x1), (3, .int x3)]) hx hb dX6_moreApart_4 hl (by decide) rfl (fun ls hl => ?_)
      exact h _ _ _ hP hD hS (lv_sub hl [2, 4, 1, 0] rfl)
  case b6 =>
    intro b3 b4 b6 μ h H locs ls hP hD hS hl
    refine lv_iload hx hb dX6_moreApart_6 (lv_at hl 3 rfl) ?_
    refine lv_iload_n hx hb dX6_moreApart_8 rfl (lv_at hl 1 rfl) ?_
    refine lv_icmp_ge (tgt := 32) hx hb dX6_moreApart_9 (by decide) (fun c1 => ?_) (fun c1 => ?_)
    · have h := h.1 c1
      refine lv_lload hx hb dX6_moreApart_32 (lv_at hl 2 rfl) ?_
      exact W.lret (v := b4) hx hb hr (fun t ht hW => ⟨⟨b4, μ, rfl, h, PW.to hK hN hP hD t ht hW⟩, hS.F ht⟩) hS.2.2 dX6_moreApart_34
    · have h := h.2 c1
      refine lv_lload hx hb dX6_moreApart_12 (lv_at hl 2 rfl) ?_
      refine lv_aload_n hx hb dX6_moreApart_14 rfl (lv_at hl 0 rfl) ?_
      refine zw_get (C := RX6) (T := TX6) (M := 22) (v := .ref (ad 13)) hx hb hts hi_X6 hown hK hP kM_0 rfl 16 (by decide) hw0 rfl dX6_moreApart_15 ?_
      refine lv_iload hx hb dX6_moreApart_18 (lv_at hl 3 rfl) ?_
      obtain ⟨hi2, h⟩ := h
      refine zw_iald hx hb hK hP kM_13 hi2 dX6_moreApart_20 ?_
      refine zc_l (zc_runS (As := [.long b4, .int (μ.1 13 (b6 : Int32).toNatClampNeg)]) (rest := []) ⟨hx, hb, hml, hown, hts⟩ (c_X6_more l D cc A ad rs b4 (μ.1 13 (b6 : Int32).toNatClampNeg) μ _ h) (va_cwS 2 hts gX6_moreApart_X6_more rfl rfl rfl (by decide +kernel) ⟨Nat.le_of_ble_eq_true rfl, Nat.le_of_ble_eq_true rfl⟩) hK hN hP hD rfl hl.1 rfl (Nat.le_of_ble_eq_true rfl) dX6_moreApart_21 ⟨Nat.zero_le _, Nat.zero_le _⟩) hS (fun r3 μ4 H locs h hP hD hS => ?_)
      refine lv_lstore (lv' := [(4, .long r3), (0, .ref (ad 0)), (3, .int b3), (6, .int b6)]) hx hb dX6_moreApart_24 hl (by decide) rfl (fun ls hl => ?_)
      obtain ⟨y5, ey5⟩ : ∃ y : Int32, y = b6 + 1 := ⟨_, rfl⟩
      have h := h y5 ey5
      refine lv_iinc (v := y5) (lv' := [(6, .int y5), (4, .long r3), (0, .ref (ad 0)), (3, .int b3)]) hx hb dX6_moreApart_26 hl (k := 3) rfl (by rw [ey5]; rfl) (by decide) rfl (fun ls hl => ?_)
      refine lv_goto (tgt := 6) hx hb dX6_moreApart_29 (by decide) ?_
      exact h _ _ _ hP hD hS (lv_sub hl [2, 3, 1, 0] rfl)
set_option maxHeartbeats 4000000 in
set_option maxRecDepth 100000 in
theorem c_X6_checksum (l : Launch) (D : va_G) (cc : Nat → ClassId) (A : Nat → Prop) (ad : Nat → Nat) (rs : va_W)  (μ : Mem) (K : Int64 → Mem → Prop) (h : f_X6_checksum  μ K) : Met l yX6_checksum wsX6_checksum ({ frames := 6, cells := 0, slots := 0, locals := 127 }) (va_Pc [.ref (ad 0)] (PW shM 18 D cc A ad rs μ)) (va_Ql K (PW shM 18 D cc A ad rs) A) 0 0 A := by
  refine Met.ofW (cc := cX6_checksum) (maxL := 6) (ret := (some .long)) (by decide) rfl ?_
  intro p e s m args below meth c s₁ BB hml hv
  obtain ⟨rfl, hP, hK, hD, hN⟩ := hv
  have hx := BB.exec
  have hb := BB.bytes
  have hr := BB.returns
  have hts := atoms_spec (ws := wsX6_checksum) BB.pre
  have hown : s.vm.findClass RX6 = some m.cls := findClass_of_methodNamed BB.named
  have hlocks := BB.notSynchronized
  have hi_X6 : ∀ w ∈ u_ws RX6 TX6 22, w ∈ wsX6_checksum := by decide +kernel
  have hw0 := hts (.constantLong RX6 223 (83)) (by decide +kernel)
  have hw1 := hts (.fieldLink RX6 7 "FeatureClashesModel" "v" "[I") (by decide +kernel)
  have hw2 := hts (.fieldLink RX6 53 "FeatureClashesModel" "order" "[I") (by decide +kernel)
  have hw3 := hts (.fieldLink RX6 70 "FeatureClashesModel" "letters" "I") (by decide +kernel)
  have hS : va_S A s.heap s.heap [] := va_S.rf
  have hl := lv_entry ([.ref (ad 0)]) (n := 6) (Nat.le_of_ble_eq_true rfl)
  rw [lg_entry_eq]
  generalize (lg_sl ([.ref (ad 0)]) ++ List.replicate (6 - (lg_sl ([.ref (ad 0)])).length) Slot.unset).toArray = ls at hl ⊢
  have hl : lv_has ls 6 [(0, .ref (ad 0))] := hl
  unfold f_X6_checksum at h
  refine (fun h => ?main) (h (fun b1 b3 μ => ∀ (H1 : Heap) (locs : List Loc) (ls : Array Slot), va_P D vwCl (wW shM 18 cc ad μ ++ rs) H1 → va_D A (wW shM 18 cc ad μ ++ rs) → va_S A s.heap H1 locs → lv_has ls 6 [(0, .ref (ad 0)), (1, .long b1), (3, .int b3)] → W p l e (headSpec wsX6_checksum ({ frames := 6, cells := 0, slots := 0, locals := 127 })).room s m ([.ref (ad 0)] : List Value).toArray below meth c H1 locs 0 0 (MQ below (va_Ql K (PW shM 18 D cc A ad rs) A) ([.ref (ad 0)] : List Value).toArray s 0 0 A) (F0 m 16 ls ([]))) (fun b1 b3 b4 μ => ∀ (H1 : Heap) (locs : List Loc) (ls : Array Slot), va_P D vwCl (wW shM 18 cc ad μ ++ rs) H1 → va_D A (wW shM 18 cc ad μ ++ rs) → va_S A s.heap H1 locs → lv_has ls 6 [(0, .ref (ad 0)), (1, .long b1), (3, .int b3), (4, .int b4)] → W p l e (headSpec wsX6_checksum ({ frames := 6, cells := 0, slots := 0, locals := 127 })).room s m ([.ref (ad 0)] : List Value).toArray below meth c H1 locs 0 0 (MQ below (va_Ql K (PW shM 18 D cc A ad rs) A) ([.ref (ad 0)] : List Value).toArray s 0 0 A) (F0 m 142 ls ([]))) (fun b1 b3 b4 μ => ∀ (H1 : Heap) (locs : List Loc) (ls : Array Slot), va_P D vwCl (wW shM 18 cc ad μ ++ rs) H1 → va_D A (wW shM 18 cc ad μ ++ rs) → va_S A s.heap H1 locs → lv_has ls 6 [(0, .ref (ad 0)), (1, .long b1), (3, .int b3), (4, .int b4)] → W p l e (headSpec wsX6_checksum ({ frames := 6, cells := 0, slots := 0, locals := 127 })).room s m ([.ref (ad 0)] : List Value).toArray below meth c H1 locs 0 0 (MQ below (va_Ql K (PW shM 18 D cc A ad rs) A) ([.ref (ad 0)] : List Value).toArray s 0 0 A) (F0 m 50 ls ([]))) (fun b1 b4 μ => ∀ (H1 : Heap) (locs : List Loc) (ls : Array Slot), va_P D vwCl (wW shM 18 cc ad μ ++ rs) H1 → va_D A (wW shM 18 cc ad μ ++ rs) → va_S A s.heap H1 locs → lv_has ls 6 [(0, .ref (ad 0)), (1, .long b1), (4, .int b4)] → W p l e (headSpec wsX6_checksum ({ frames := 6, cells := 0, slots := 0, locals := 127 })).room s m ([.ref (ad 0)] : List Value).toArray below meth c H1 locs 0 0 (MQ below (va_Ql K (PW shM 18 D cc A ad rs) A) ([.ref (ad 0)] : List Value).toArray s 0 0 A) (F0 m 183 ls ([]))) (fun b3 b4 b5 z0 z1 μ => ∀ (H1 : Heap) (locs : List Loc) (ls : Array Slot), va_P D vwCl (wW shM 18 cc ad μ ++ rs) H1 → va_D A (wW shM 18 cc ad μ ++ rs) → va_S A s.heap H1 locs → lv_has ls 6 [(0, .ref (ad 0)), (3, .int b3), (4, .int b4), (5, .int b5)] → W p l e (headSpec wsX6_checksum ({ frames := 6, cells := 0, slots := 0, locals := 127 })).room s m ([.ref (ad 0)] : List Value).toArray below meth c H1 locs 0 0 (MQ below (va_Ql K (PW shM 18 D cc A ad rs) A) ([.ref (ad 0)] : List Value).toArray s 0 0 A) (F0 m 83 ls ([.int z0, .long z1, .ref (ad 0)]))) ?b16 ?b142 ?b50 ?b183 ?b83)
  case main =>
      refine lv_ldc2 (v := 83) hx hb hown hw0 dX6_checksum_0 ?_
      refine lv_aload_n hx hb dX6_checksum_3 rfl (lv_at hl 0 rfl) ?_
      refine zw_get (C := RX6) (T := TX6) (M := 22) (v := .ref (ad 1)) hx hb hts hi_X6 hown hK hP kM_0 rfl 0 (by decide) hw1 rfl dX6_checksum_4 ?_
      refine lv_bipush (v := 34) hx hb dX6_checksum_7 (by decide) ?_
      obtain ⟨hi1, h⟩ := h
      refine zw_iald hx hb hK hP kM_1 hi1 dX6_checksum_9 ?_
      refine zc_l (zc_runS (As := [.long 83, .int (μ.1 1 (34 : Int32).toNatClampNeg)]) (rest := []) ⟨hx, hb, hml, hown, hts⟩ (c_X6_more l D cc A ad rs 83 (μ.1 1 (34 : Int32).toNatClampNeg) μ _ h) (va_cwS 2 hts gX6_checksum_X6_more rfl rfl rfl (by decide +kernel) ⟨Nat.le_of_ble_eq_true rfl, Nat.le_of_ble_eq_true rfl⟩) hK hN hP hD rfl hl.1 rfl (Nat.le_of_ble_eq_true rfl) dX6_checksum_10 ⟨Nat.zero_le _, Nat.zero_le _⟩) hS (fun r2 μ3 H locs h hP hD hS => ?_)
      refine lv_lstore_n (lv' := [(1, .long r2), (0, .ref (ad 0))]) hx hb dX6_checksum_13 rfl hl (by decide) rfl (fun ls hl => ?_)
      refine lv_iconst (v := 0) hx hb dX6_checksum_14 (by decide) ?_
      refine lv_istore_n (lv' := [(3, .int 0), (1, .long r2), (0, .ref (ad 0))]) hx hb dX6_checksum_15 rfl hl (by decide) rfl (fun ls hl => ?_)
      exact h _ _ _ hP hD hS (lv_sub hl [2, 1, 0] rfl)
  case b16 =>
    intro b1 b3 μ h H locs ls hP hD hS hl
    refine lv_iload_n hx hb dX6_checksum_16 rfl (lv_at hl 2 rfl) ?_
    refine lv_aload_n hx hb dX6_checksum_17 rfl (lv_at hl 0 rfl) ?_
    refine zw_get (C := RX6) (T := TX6) (M := 22) (v := .ref (ad 1)) hx hb hts hi_X6 hown hK hP kM_0 rfl 0 (by decide) hw1 rfl dX6_checksum_18 ?_
    refine lv_bipush (v := 34) hx hb dX6_checksum_21 (by decide) ?_
    obtain ⟨hi4, h⟩ := h
    refine zw_iald hx hb hK hP kM_1 hi4 dX6_checksum_23 ?_
    refine lv_icmp_ge (tgt := 104) hx hb dX6_checksum_24 (by decide) (fun c5 => ?_) (fun c5 => ?_)
    · have h := h.1 c5
      refine lv_lload_n hx hb dX6_checksum_104 rfl (lv_at hl 1 rfl) ?_
      refine lv_aload_n hx hb dX6_checksum_105 rfl (lv_at hl 0 rfl) ?_
      refine zc_i (zc_runV (As := []) (rest := [.long b1]) ⟨hx, hb, hml, hown, hts⟩ (c_X6_clashesNow l D cc A ad rs  μ _ h) (cwV 0 hts gX6_checksum_X6_clashesNow rfl rfl rfl (by decide +kernel) ⟨Nat.le_of_ble_eq_true rfl, Nat.le_of_ble_eq_true rfl⟩) kM_0 rfl hK hN hP hD rfl hl.1 rfl (Nat.le_of_ble_eq_true rfl) dX6_checksum_106 ⟨Nat.zero_le _, Nat.zero_le _⟩) hS (fun r6 μ7 H locs h hP hD hS => ?_)
      refine zc_l (zc_runS (As := [.long b1, .int r6]) (rest := []) ⟨hx, hb, hml, hown, hts⟩ (c_X6_more l D cc A ad rs b1 r6 μ7 _ h) (va_cwS 2 hts gX6_checksum_X6_more rfl rfl rfl (by decide +kernel) ⟨Nat.le_of_ble_eq_true rfl, Nat.le_of_ble_eq_true rfl⟩) hK hN hP hD rfl hl.1 rfl (Nat.le_of_ble_eq_true rfl) dX6_checksum_109 ⟨Nat.zero_le _, Nat.zero_le _⟩) hS (fun r8 μ9 H locs h hP hD hS => ?_)
      refine lv_aload_n hx hb dX6_checksum_112 rfl (lv_at hl 0 rfl) ?_
      refine zc_i (zc_runV (As := []) (rest := [.long r8]) ⟨hx, hb, hml, hown, hts⟩ (c_X6_ordersNow l D cc A ad rs  μ9 _ h) (cwV 0 hts gX6_checksum_X6_ordersNow rfl rfl rfl (by decide +kernel) ⟨Nat.le_of_ble_eq_true rfl, Nat.le_of_ble_eq_true rfl⟩) kM_0 rfl hK hN hP hD rfl hl.1 rfl (Nat.le_of_ble_eq_true rfl) dX6_checksum_113 ⟨Nat.zero_le _, Nat.zero_le _⟩) hS (fun r10 μ11 H locs h hP hD hS => ?_)
      refine zc_l (zc_runS (As := [.long r8, .int r10]) (rest := []) ⟨hx, hb, hml, hown, hts⟩ (c_X6_more l D cc A ad rs r8 r10 μ11 _ h) (va_cwS 2 hts gX6_checksum_X6_more rfl rfl rfl (by decide +kernel) ⟨Nat.le_of_ble_eq_true rfl, Nat.le_of_ble_eq_true rfl⟩) hK hN hP hD rfl hl.1 rfl (Nat.le_of_ble_eq_true rfl) dX6_checksum_116 ⟨Nat.zero_le _, Nat.zero_le _⟩) hS (fun r12 μ13 H locs h hP hD hS => ?_)
      refine lv_aload_n hx hb dX6_checksum_119 rfl (lv_at hl 0 rfl) ?_
      refine zc_i (zc_runV (As := []) (rest := [.long r12]) ⟨hx, hb, hml, hown, hts⟩ (c_X6_openNow l D cc A ad rs  μ13 _ h) (cwV 0 hts gX6_checksum_X6_openNow rfl rfl rfl (by decide +kernel) ⟨Nat.le_of_ble_eq_true rfl, Nat.le_of_ble_eq_true rfl⟩) kM_0 rfl hK hN hP hD rfl hl.1 rfl (Nat.le_of_ble_eq_true rfl) dX6_checksum_120 ⟨Nat.zero_le _, Nat.zero_le _⟩) hS (fun r14 μ15 H locs h hP hD hS => ?_)
      refine zc_l (zc_runS (As := [.long r12, .int r14]) (rest := []) ⟨hx, hb, hml, hown, hts⟩ (c_X6_more l D cc A ad rs r12 r14 μ15 _ h) (va_cwS 2 hts gX6_checksum_X6_more rfl rfl rfl (by decide +kernel) ⟨Nat.le_of_ble_eq_true rfl, Nat.le_of_ble_eq_true rfl⟩) hK hN hP hD rfl hl.1 rfl (Nat.le_of_ble_eq_true rfl) dX6_checksum_123 ⟨Nat.zero_le _, Nat.zero_le _⟩) hS (fun r16 μ17 H locs h hP hD hS => ?_)
      refine lv_aload_n hx hb dX6_checksum_126 rfl (lv_at hl 0 rfl) ?_
      refine zc_i (zc_runV (As := []) (rest := [.long r16]) ⟨hx, hb, hml, hown, hts⟩ (c_X6_isResolvedNow l D cc A ad rs  μ17 _ h) (cwV 0 hts gX6_checksum_X6_isResolvedNow rfl rfl rfl (by decide +kernel) ⟨Nat.le_of_ble_eq_true rfl, Nat.le_of_ble_eq_true rfl⟩) kM_0 rfl hK hN hP hD rfl hl.1 rfl (Nat.le_of_ble_eq_true rfl) dX6_checksum_127 ⟨Nat.zero_le _, Nat.zero_le _⟩) hS (fun r18 μ19 H locs h hP hD hS => ?_)
      refine zc_l (zc_runS (As := [.long r16, .int r18]) (rest := []) ⟨hx, hb, hml, hown, hts⟩ (c_X6_more l D cc A ad rs r16 r18 μ19 _ h) (va_cwS 2 hts gX6_checksum_X6_more rfl rfl rfl (by decide +kernel) ⟨Nat.le_of_ble_eq_true rfl, Nat.le_of_ble_eq_true rfl⟩) hK hN hP hD rfl hl.1 rfl (Nat.le_of_ble_eq_true rfl) dX6_checksum_130 ⟨Nat.zero_le _, Nat.zero_le _⟩) hS (fun r20 μ21 H locs h hP hD hS => ?_)
      refine lv_lstore_n (lv' := [(1, .long r20), (0, .ref (ad 0)), (3, .int b3)]) hx hb dX6_checksum_133 rfl hl (by decide) rfl (fun ls hl => ?_)
      refine lv_aload_n hx hb dX6_checksum_134 rfl (lv_at hl 1 rfl) ?_
      refine zc_i (zc_runV (As := []) (rest := []) ⟨hx, hb, hml, hown, hts⟩ (c_X6_findResolved l D cc A ad rs  μ21 _ h) (cwV 0 hts gX6_checksum_X6_findResolved rfl rfl rfl (by decide +kernel) ⟨Nat.le_of_ble_eq_true rfl, Nat.le_of_ble_eq_true rfl⟩) kM_0 rfl hK hN hP hD rfl hl.1 rfl (Nat.le_of_ble_eq_true rfl) dX6_checksum_135 ⟨Nat.zero_le _, Nat.zero_le _⟩) hS (fun r22 μ23 H locs h hP hD hS => ?_)
      refine lv_istore_n (lv' := [(3, .int r22), (1, .long r20), (0, .ref (ad 0))]) hx hb dX6_checksum_138 rfl hl (by decide) rfl (fun ls hl => ?_)
      refine lv_iconst (v := 0) hx hb dX6_checksum_139 (by decide) ?_
      refine lv_istore (lv' := [(4, .int 0), (3, .int r22), (1, .long r20), (0, .ref (ad 0))]) hx hb dX6_checksum_140 hl (by decide) rfl (fun ls hl => ?_)
      exact h _ _ _ hP hD hS (lv_sub hl [3, 2, 1, 0] rfl)
    · have h := h.2 c5
      refine lv_lload_n hx hb dX6_checksum_27 rfl (lv_at hl 1 rfl) ?_
      refine lv_aload_n hx hb dX6_checksum_28 rfl (lv_at hl 0 rfl) ?_
      refine lv_iload_n hx hb dX6_checksum_29 rfl (lv_at hl 2 rfl) ?_
      refine zc_i (zc_runV (As := [.int b3]) (rest := [.long b1]) ⟨hx, hb, hml, hown, hts⟩ (c_X6_count l D cc A ad rs b3 μ _ h) (cwV 1 hts gX6_checksum_X6_count rfl rfl rfl (by decide +kernel) ⟨Nat.le_of_ble_eq_true rfl, Nat.le_of_ble_eq_true rfl⟩) kM_0 rfl hK hN hP hD rfl hl.1 rfl (Nat.le_of_ble_eq_true rfl) dX6_checksum_30 ⟨Nat.zero_le _, Nat.zero_le _⟩) hS (fun r24 μ25 H locs h hP hD hS => ?_)
      refine zc_l (zc_runS (As := [.long b1, .int r24]) (rest := []) ⟨hx, hb, hml, hown, hts⟩ (c_X6_more l D cc A ad rs b1 r24 μ25 _ h) (va_cwS 2 hts gX6_checksum_X6_more rfl rfl rfl (by decide +kernel) ⟨Nat.le_of_ble_eq_true rfl, Nat.le_of_ble_eq_true rfl⟩) hK hN hP hD rfl hl.1 rfl (Nat.le_of_ble_eq_true rfl) dX6_checksum_33 ⟨Nat.zero_le _, Nat.zero_le _⟩) hS (fun r26 μ27 H locs h hP hD hS => ?_)
      refine lv_aload_n hx hb dX6_checksum_36 rfl (lv_at hl 0 rfl) ?_
      refine lv_iload_n hx hb dX6_checksum_37 rfl (lv_at hl 2 rfl) ?_
      refine zc_i (zc_runV (As := [.int b3]) (rest := [.long r26]) ⟨hx, hb, hml, hown, hts⟩ (c_X6_reachNow l D cc A ad rs b3 μ27 _ h) (cwV 1 hts gX6_checksum_X6_reachNow rfl rfl rfl (by decide +kernel) ⟨Nat.le_of_ble_eq_true rfl, Nat.le_of_ble_eq_true rfl⟩) kM_0 rfl hK hN hP hD rfl hl.1 rfl (Nat.le_of_ble_eq_true rfl) dX6_checksum_38 ⟨Nat.zero_le _, Nat.zero_le _⟩) hS (fun r28 μ29 H locs h hP hD hS => ?_)
      refine zc_l (zc_runS (As := [.long r26, .int r28]) (rest := []) ⟨hx, hb, hml, hown, hts⟩ (c_X6_more l D cc A ad rs r26 r28 μ29 _ h) (va_cwS 2 hts gX6_checksum_X6_more rfl rfl rfl (by decide +kernel) ⟨Nat.le_of_ble_eq_true rfl, Nat.le_of_ble_eq_true rfl⟩) hK hN hP hD rfl hl.1 rfl (Nat.le_of_ble_eq_true rfl) dX6_checksum_41 ⟨Nat.zero_le _, Nat.zero_le _⟩) hS (fun r30 μ31 H locs h hP hD hS => ?_)
      refine lv_lstore_n (lv' := [(1, .long r30), (0, .ref (ad 0)), (3, .int b3)]) hx hb dX6_checksum_44 rfl hl (by decide) rfl (fun ls hl => ?_)
      refine lv_iload_n hx hb dX6_checksum_45 rfl (lv_at hl 2 rfl) ?_
      refine lv_iconst (v := 1) hx hb dX6_checksum_46 (by decide) ?_
      refine lv_iadd hx hb dX6_checksum_47 ?_
      refine lv_topi (fun y32 ey32 => ?_)
      have h := h y32 ey32
      refine lv_istore (lv' := [(4, .int y32), (1, .long r30), (0, .ref (ad 0)), (3, .int b3)]) hx hb dX6_checksum_48 hl (by decide) rfl (fun ls hl => ?_)
      exact h _ _ _ hP hD hS (lv_sub hl [2, 1, 3, 0] rfl)
  case b142 =>
    intro b1 b3 b4 μ h H locs ls hP hD hS hl
    refine lv_iload hx hb dX6_checksum_142 (lv_at hl 3 rfl) ?_
    refine lv_iload_n hx hb dX6_checksum_144 rfl (lv_at hl 2 rfl) ?_
    refine lv_icmp_ge (tgt := 166) hx hb dX6_checksum_145 (by decide) (fun c33 => ?_) (fun c33 => ?_)
    · have h := h.1 c33
      refine lv_aload_n hx hb dX6_checksum_166 rfl (lv_at hl 0 rfl) ?_
      refine lv_lload_n hx hb dX6_checksum_167 rfl (lv_at hl 1 rfl) ?_
      refine lv_aload_n hx hb dX6_checksum_168 rfl (lv_at hl 0 rfl) ?_
      refine zc_i (zc_runV (As := []) (rest := [.long b1, .ref (ad 0)]) ⟨hx, hb, hml, hown, hts⟩ (c_X6_effects l D cc A ad rs  μ _ h) (cwV 0 hts gX6_checksum_X6_effects rfl rfl rfl (by decide +kernel) ⟨Nat.le_of_ble_eq_true rfl, Nat.le_of_ble_eq_true rfl⟩) kM_0 rfl hK hN hP hD rfl hl.1 rfl (Nat.le_of_ble_eq_true rfl) dX6_checksum_169 ⟨Nat.zero_le _, Nat.zero_le _⟩) hS (fun r34 μ35 H locs h hP hD hS => ?_)
      refine zc_l (zc_runV (As := [.long b1, .int r34]) (rest := []) ⟨hx, hb, hml, hown, hts⟩ (c_X6_moreApart l D cc A ad rs b1 r34 μ35 _ h) (cwV 2 hts gX6_checksum_X6_moreApart rfl rfl rfl (by decide +kernel) ⟨Nat.le_of_ble_eq_true rfl, Nat.le_of_ble_eq_true rfl⟩) kM_0 rfl hK hN hP hD rfl hl.1 rfl (Nat.le_of_ble_eq_true rfl) dX6_checksum_172 ⟨Nat.zero_le _, Nat.zero_le _⟩) hS (fun r36 μ37 H locs h hP hD hS => ?_)
      refine lv_lstore_n (lv' := [(1, .long r36), (0, .ref (ad 0)), (3, .int b3), (4, .int b4)]) hx hb dX6_checksum_175 rfl hl (by decide) rfl (fun ls hl => ?_)
      refine lv_aload_n hx hb dX6_checksum_176 rfl (lv_at hl 1 rfl) ?_
      refine zc_v (zc_runV (As := []) (rest := []) ⟨hx, hb, hml, hown, hts⟩ (c_X6_findResolvedMachine l D cc A ad rs  μ37 _ h) (cwV 0 hts gX6_checksum_X6_findResolvedMachine rfl rfl rfl (by decide +kernel) ⟨Nat.le_of_ble_eq_true rfl, Nat.le_of_ble_eq_true rfl⟩) kM_0 rfl hK hN hP hD rfl hl.1 rfl (Nat.le_of_ble_eq_true rfl) dX6_checksum_177 ⟨Nat.zero_le _, Nat.zero_le _⟩) hS (fun μ39 H locs h hP hD hS => ?_)
      refine lv_iconst (v := 0) hx hb dX6_checksum_180 (by decide) ?_
      refine lv_istore (lv' := [(4, .int 0), (1, .long r36), (0, .ref (ad 0)), (3, .int b3)]) hx hb dX6_checksum_181 hl (by decide) rfl (fun ls hl => ?_)
      exact h _ _ _ hP hD hS (lv_sub hl [2, 1, 0] rfl)
    · have h := h.2 c33
      refine lv_lload_n hx hb dX6_checksum_148 rfl (lv_at hl 1 rfl) ?_
      refine lv_aload_n hx hb dX6_checksum_149 rfl (lv_at hl 0 rfl) ?_
      refine zw_get (C := RX6) (T := TX6) (M := 22) (v := .ref (ad 15)) hx hb hts hi_X6 hown hK hP kM_0 rfl 19 (by decide) hw2 rfl dX6_checksum_150 ?_
      refine lv_iload hx hb dX6_checksum_153 (lv_at hl 3 rfl) ?_
      obtain ⟨hi40, h⟩ := h
      refine zw_iald hx hb hK hP kM_15 hi40 dX6_checksum_155 ?_
      refine zc_l (zc_runS (As := [.long b1, .int (μ.1 15 (b4 : Int32).toNatClampNeg)]) (rest := []) ⟨hx, hb, hml, hown, hts⟩ (c_X6_more l D cc A ad rs b1 (μ.1 15 (b4 : Int32).toNatClampNeg) μ _ h) (va_cwS 2 hts gX6_checksum_X6_more rfl rfl rfl (by decide +kernel) ⟨Nat.le_of_ble_eq_true rfl, Nat.le_of_ble_eq_true rfl⟩) hK hN hP hD rfl hl.1 rfl (Nat.le_of_ble_eq_true rfl) dX6_checksum_156 ⟨Nat.zero_le _, Nat.zero_le _⟩) hS (fun r41 μ42 H locs h hP hD hS => ?_)
      refine lv_lstore_n (lv' := [(1, .long r41), (0, .ref (ad 0)), (3, .int b3), (4, .int b4)]) hx hb dX6_checksum_159 rfl hl (by decide) rfl (fun ls hl => ?_)
      obtain ⟨y43, ey43⟩ : ∃ y : Int32, y = b4 + 1 := ⟨_, rfl⟩
      have h := h y43 ey43
      refine lv_iinc (v := y43) (lv' := [(4, .int y43), (1, .long r41), (0, .ref (ad 0)), (3, .int b3)]) hx hb dX6_checksum_160 hl (k := 3) rfl (by rw [ey43]; rfl) (by decide) rfl (fun ls hl => ?_)
      refine lv_goto (tgt := 142) hx hb dX6_checksum_163 (by decide) ?_
      exact h _ _ _ hP hD hS (lv_sub hl [2, 1, 3, 0] rfl)
  case b50 =>
    intro b1 b3 b4 μ h H locs ls hP hD hS hl
    refine lv_iload hx hb dX6_checksum_50 (lv_at hl 3 rfl) ?_
    refine lv_aload_n hx hb dX6_checksum_52 rfl (lv_at hl 0 rfl) ?_
    refine zw_get (C := RX6) (T := TX6) (M := 22) (v := .ref (ad 1)) hx hb hts hi_X6 hown hK hP kM_0 rfl 0 (by decide) hw1 rfl dX6_checksum_53 ?_
    refine lv_bipush (v := 34) hx hb dX6_checksum_56 (by decide) ?_
    obtain ⟨hi44, h⟩ := h
    refine zw_iald hx hb hK hP kM_1 hi44 dX6_checksum_58 ?_
    refine lv_icmp_ge (tgt := 98) hx hb dX6_checksum_59 (by decide) (fun c45 => ?_) (fun c45 => ?_)
    · have h := h.1 c45
      obtain ⟨y46, ey46⟩ : ∃ y : Int32, y = b3 + 1 := ⟨_, rfl⟩
      have h := h y46 ey46
      refine lv_iinc (v := y46) (lv' := [(3, .int y46), (0, .ref (ad 0)), (1, .long b1), (4, .int b4)]) hx hb dX6_checksum_98 hl (k := 2) rfl (by rw [ey46]; rfl) (by decide) rfl (fun ls hl => ?_)
      refine lv_goto (tgt := 16) hx hb dX6_checksum_101 (by decide) ?_
      exact h _ _ _ hP hD hS (lv_sub hl [1, 2, 0] rfl)
    · have h := h.2 c45
      refine lv_aload_n hx hb dX6_checksum_62 rfl (lv_at hl 0 rfl) ?_
      refine lv_iload_n hx hb dX6_checksum_63 rfl (lv_at hl 2 rfl) ?_
      refine lv_iload hx hb dX6_checksum_64 (lv_at hl 3 rfl) ?_
      refine zc_i (zc_runV (As := [.int b3, .int b4]) (rest := []) ⟨hx, hb, hml, hown, hts⟩ (c_X6_findWitness l D cc A ad rs b3 b4 μ _ h) (cwV 2 hts gX6_checksum_X6_findWitness rfl rfl rfl (by decide +kernel) ⟨Nat.le_of_ble_eq_true rfl, Nat.le_of_ble_eq_true rfl⟩) kM_0 rfl hK hN hP hD rfl hl.1 rfl (Nat.le_of_ble_eq_true rfl) dX6_checksum_66 ⟨Nat.zero_le _, Nat.zero_le _⟩) hS (fun r47 μ48 H locs h hP hD hS => ?_)
      refine lv_istore (lv' := [(5, .int r47), (0, .ref (ad 0)), (1, .long b1), (3, .int b3), (4, .int b4)]) hx hb dX6_checksum_69 hl (by decide) rfl (fun ls hl => ?_)
      refine lv_aload_n hx hb dX6_checksum_71 rfl (lv_at hl 1 rfl) ?_
      refine lv_lload_n hx hb dX6_checksum_72 rfl (lv_at hl 2 rfl) ?_
      refine lv_iload hx hb dX6_checksum_73 (lv_at hl 0 rfl) ?_
      refine lv_if_le (tgt := 82) hx hb dX6_checksum_75 (by decide) (fun c49 => ?_) (fun c49 => ?_)
      · have h := h.1 c49
        refine lv_iconst (v := 0) hx hb dX6_checksum_82 (by decide) ?_
        exact h _ _ _ hP hD hS (lv_sub hl [1, 3, 4, 0] rfl)
      · have h := h.2 c49
        refine lv_iconst (v := 1) hx hb dX6_checksum_78 (by decide) ?_
        refine lv_goto (tgt := 83) hx hb dX6_checksum_79 (by decide) ?_
        exact h _ _ _ hP hD hS (lv_sub hl [1, 3, 4, 0] rfl)
  case b183 =>
    intro b1 b4 μ h H locs ls hP hD hS hl
    refine lv_iload hx hb dX6_checksum_183 (lv_at hl 2 rfl) ?_
    refine lv_aload_n hx hb dX6_checksum_185 rfl (lv_at hl 0 rfl) ?_
    refine zw_get (C := RX6) (T := TX6) (M := 22) (v := .int (μ.1 0 4)) hx hb hts hi_X6 hown hK hP kM_0 rfl 4 (by decide) hw3 rfl dX6_checksum_186 ?_
    refine lv_icmp_ge (tgt := 209) hx hb dX6_checksum_189 (by decide) (fun c50 => ?_) (fun c50 => ?_)
    · have h := h.1 c50
      refine lv_lload_n hx hb dX6_checksum_209 rfl (lv_at hl 1 rfl) ?_
      exact W.lret (v := b1) hx hb hr (fun t ht hW => ⟨⟨b1, μ, rfl, h, PW.to hK hN hP hD t ht hW⟩, hS.F ht⟩) hS.2.2 dX6_checksum_210
    · have h := h.2 c50
      refine lv_lload_n hx hb dX6_checksum_192 rfl (lv_at hl 1 rfl) ?_
      refine lv_aload_n hx hb dX6_checksum_193 rfl (lv_at hl 0 rfl) ?_
      refine lv_iload hx hb dX6_checksum_194 (lv_at hl 2 rfl) ?_
      refine zc_i (zc_runV (As := [.int b4]) (rest := [.long b1]) ⟨hx, hb, hml, hown, hts⟩ (c_X6_answerOf l D cc A ad rs b4 μ _ h) (cwV 1 hts gX6_checksum_X6_answerOf rfl rfl rfl (by decide +kernel) ⟨Nat.le_of_ble_eq_true rfl, Nat.le_of_ble_eq_true rfl⟩) kM_0 rfl hK hN hP hD rfl hl.1 rfl (Nat.le_of_ble_eq_true rfl) dX6_checksum_196 ⟨Nat.zero_le _, Nat.zero_le _⟩) hS (fun r51 μ52 H locs h hP hD hS => ?_)
      refine zc_l (zc_runS (As := [.long b1, .int r51]) (rest := []) ⟨hx, hb, hml, hown, hts⟩ (c_X6_more l D cc A ad rs b1 r51 μ52 _ h) (va_cwS 2 hts gX6_checksum_X6_more rfl rfl rfl (by decide +kernel) ⟨Nat.le_of_ble_eq_true rfl, Nat.le_of_ble_eq_true rfl⟩) hK hN hP hD rfl hl.1 rfl (Nat.le_of_ble_eq_true rfl) dX6_checksum_199 ⟨Nat.zero_le _, Nat.zero_le _⟩) hS (fun r53 μ54 H locs h hP hD hS => ?_)
      refine lv_lstore_n (lv' := [(1, .long r53), (0, .ref (ad 0)), (4, .int b4)]) hx hb dX6_checksum_202 rfl hl (by decide) rfl (fun ls hl => ?_)
      obtain ⟨y55, ey55⟩ : ∃ y : Int32, y = b4 + 1 := ⟨_, rfl⟩
      have h := h y55 ey55
      refine lv_iinc (v := y55) (lv' := [(4, .int y55), (1, .long r53), (0, .ref (ad 0))]) hx hb dX6_checksum_203 hl (k := 2) rfl (by rw [ey55]; rfl) (by decide) rfl (fun ls hl => ?_)
      refine lv_goto (tgt := 183) hx hb dX6_checksum_206 (by decide) ?_
      exact h _ _ _ hP hD hS (lv_sub hl [2, 1, 0] rfl)
  case b83 =>
    intro b3 b4 b5 z0 z1 μ h H locs ls hP hD hS hl
    refine zc_l (zc_runS (As := [.long z1, .int z0]) (rest := [.ref (ad 0)]) ⟨hx, hb, hml, hown, hts⟩ (c_X6_more l D cc A ad rs z1 z0 μ _ h) (va_cwS 2 hts gX6_checksum_X6_more rfl rfl rfl (by decide +kernel) ⟨Nat.le_of_ble_eq_true rfl, Nat.le_of_ble_eq_true rfl⟩) hK hN hP hD rfl hl.1 rfl (Nat.le_of_ble_eq_true rfl) dX6_checksum_83 ⟨Nat.zero_le _, Nat.zero_le _⟩) hS (fun r56 μ57 H locs h hP hD hS => ?_)
    refine lv_iload hx hb dX6_checksum_86 (lv_at hl 3 rfl) ?_
    refine zc_l (zc_runV (As := [.long r56, .int b5]) (rest := []) ⟨hx, hb, hml, hown, hts⟩ (c_X6_moreApart l D cc A ad rs r56 b5 μ57 _ h) (cwV 2 hts gX6_checksum_X6_moreApart rfl rfl rfl (by decide +kernel) ⟨Nat.le_of_ble_eq_true rfl, Nat.le_of_ble_eq_true rfl⟩) kM_0 rfl hK hN hP hD rfl hl.1 rfl (Nat.le_of_ble_eq_true rfl) dX6_checksum_88 ⟨Nat.zero_le _, Nat.zero_le _⟩) hS (fun r58 μ59 H locs h hP hD hS => ?_)
    refine lv_lstore_n (lv' := [(1, .long r58), (0, .ref (ad 0)), (3, .int b3), (4, .int b4), (5, .int b5)]) hx hb dX6_checksum_91 rfl hl (by decide) rfl (fun ls hl => ?_)
    obtain ⟨y60, ey60⟩ : ∃ y : Int32, y = b4 + 1 := ⟨_, rfl⟩
    have h := h y60 ey60
    refine lv_iinc (v := y60) (lv' := [(4, .int y60), (1, .long r58), (0, .ref (ad 0)), (3, .int b3), (5, .int b5)]) hx hb dX6_checksum_92 hl (k := 3) rfl (by rw [ey60]; rfl) (by decide) rfl (fun ls hl => ?_)
    refine lv_goto (tgt := 50) hx hb dX6_checksum_95 (by decide) ?_
    exact h _ _ _ hP hD hS (lv_sub hl [2, 1, 3, 0] rfl)
