set_option maxHeartbeats 4000000 in
set_option maxRecDepth 100000 in
theorem c_X5_reach (l : Launch) (D : va_G) (cc : Nat → ClassId) (A : Nat → Prop) (ad : Nat → Nat) (rs : va_W) (x1 : Int32) (μ : Mem) (K : Int32 → Mem → Prop) (h : f_X5_reach x1 μ K) : Met l yX5_reach wsX5_reach ({ frames := 2, cells := 0, slots := 0, locals := 45 }) (va_Pc [.ref (ad 0), .int x1] (PW shX 67 D cc A ad rs μ)) (va_Qi K (PW shX 67 D cc A ad rs) A) 0 0 A := by
  refine Met.ofW (cc := cX5_reach) (maxL := 6) (ret := (some .int)) (by decide) rfl ?_
  intro p e s m args below meth c s₁ BB hml hv
  obtain ⟨rfl, hP, hK, hD, hN⟩ := hv
  have hx := BB.exec
  have hb := BB.bytes
  have hr := BB.returns
  have hts := atoms_spec (ws := wsX5_reach) BB.pre
  have hown : s.vm.findClass RX5 = some m.cls := findClass_of_methodNamed BB.named
  have hlocks := BB.notSynchronized
  have hi_X5 : ∀ w ∈ u_ws RX5 TX5 12, w ∈ wsX5_reach := by decide +kernel
  have hi_X2 : ∀ w ∈ u_ws RX2 TX2 7, w ∈ wsX5_reach := by decide +kernel
  have hw0 := hts (.fieldLink RX5 12 "FeatureClashes" "setup" "LFeatureClashes$Setup;") (by decide +kernel)
  have hw1 := hts (.fieldLink RX5 109 "FeatureClashes$Setup" "edits" "[[I") (by decide +kernel)
  have hw2 := hts (.fieldLink RX5 96 "FeatureClashes$Setup" "base" "[I") (by decide +kernel)
  have hw3 := hts (.fieldLink RX5 39 "FeatureClashes" "firstMachine" "[I") (by decide +kernel)
  have hS : va_S A s.heap s.heap [] := va_S.rf
  have hl := lv_entry ([.ref (ad 0), .int x1]) (n := 6) (Nat.le_of_ble_eq_true rfl)
  rw [lg_entry_eq]
  generalize (lg_sl ([.ref (ad 0), .int x1]) ++ List.replicate (6 - (lg_sl ([.ref (ad 0), .int x1])).length) Slot.unset).toArray = ls at hl ⊢
  have hl : lv_has ls 6 [(0, .ref (ad 0)), (1, .int x1)] := hl
  unfold f_X5_reach at h
  refine (fun h => ?main) (h (fun b3 b4 b5 μ => (vp_in x1 6) → ∀ (H1 : Heap) (locs : List Loc) (ls : Array Slot), va_P D vwCl (wW shX 67 cc ad μ ++ rs) H1 → va_D A (wW shX 67 cc ad μ ++ rs) → va_S A s.heap H1 locs → lv_has ls 6 [(2, .ref (ad (4 + (x1 : Int32).toNatClampNeg))), (3, .int b3), (4, .int b4), (5, .int b5)] → W p l e (headSpec wsX5_reach ({ frames := 2, cells := 0, slots := 0, locals := 45 })).room s m ([.ref (ad 0), .int x1] : List Value).toArray below meth c H1 locs 0 0 (MQ below (va_Qi K (PW shX 67 D cc A ad rs) A) ([.ref (ad 0), .int x1] : List Value).toArray s 0 0 A) (F0 m 65 ls ([]))) (fun b3 b4 b5 μ => (vp_in x1 6) → ∀ (H1 : Heap) (locs : List Loc) (ls : Array Slot), va_P D vwCl (wW shX 67 cc ad μ ++ rs) H1 → va_D A (wW shX 67 cc ad μ ++ rs) → va_S A s.heap H1 locs → lv_has ls 6 [(2, .ref (ad (4 + (x1 : Int32).toNatClampNeg))), (3, .int b3), (4, .int b4), (5, .int b5)] → W p l e (headSpec wsX5_reach ({ frames := 2, cells := 0, slots := 0, locals := 45 })).room s m ([.ref (ad 0), .int x1] : List Value).toArray below meth c H1 locs 0 0 (MQ below (va_Qi K (PW shX 67 D cc A ad rs) A) ([.ref (ad 0), .int x1] : List Value).toArray s 0 0 A) (F0 m 95 ls ([]))) ?b65 ?b95)
  case main =>
      refine lv_aload_n hx hb dX5_reach_0 rfl (lv_at hl 0 rfl) ?_
      refine zw_get (C := RX5) (T := TX5) (M := 12) (v := .ref (ad 1)) hx hb hts hi_X5 hown hK hP kX_0 rfl 0 (by decide) hw0 rfl dX5_reach_1 ?_
      refine lv_iload_n hx hb dX5_reach_4 rfl (lv_at hl 1 rfl) ?_
      refine zc_i (zc_runV (As := [.int x1]) (rest := []) ⟨hx, hb, hml, hown, hts⟩ (c_X2_hasFeature l D cc A ad rs 1 sS1 x1 μ _ h) (cwV 1 hts gX5_reach_X2_hasFeature rfl rfl rfl (by decide +kernel) ⟨Nat.le_of_ble_eq_true rfl, Nat.le_of_ble_eq_true rfl⟩) (oS sS1) rfl hK hN hP hD rfl hl.1 rfl (Nat.le_of_ble_eq_true rfl) dX5_reach_5 ⟨Nat.zero_le _, Nat.zero_le _⟩) hS (fun r1 μ2 H locs h hP hD hS => ?_)
      refine lv_if_ne (tgt := 13) hx hb dX5_reach_8 (by decide) (fun c3 => ?_) (fun c3 => ?_)
      · have h := h.1 c3
        refine lv_aload_n hx hb dX5_reach_13 rfl (lv_at hl 0 rfl) ?_
        refine zw_get (C := RX5) (T := TX5) (M := 12) (v := .ref (ad 1)) hx hb hts hi_X5 hown hK hP kX_0 rfl 0 (by decide) hw0 rfl dX5_reach_14 ?_
        refine zw_get (C := RX2) (T := TX2) (M := 7) (v := .ref (ad 3)) hx hb hts hi_X2 hown hK hP (oS sS1) rfl 5 (by decide) hw1 rfl dX5_reach_17 ?_
        refine lv_iload_n hx hb dX5_reach_20 rfl (lv_at hl 1 rfl) ?_
        obtain ⟨hi4, h⟩ := h
        refine zw_aalI hx hb hK hP (rS sS1) hi4 dX5_reach_21 ?_
        refine W.eq (g2 := F0 m 22 ls ([.ref (ad (4 + (x1 : Int32).toNatClampNeg))])) rfl ?_
        refine lv_astore_n (lv' := [(2, .ref (ad (4 + (x1 : Int32).toNatClampNeg))), (0, .ref (ad 0)), (1, .int x1)]) hx hb dX5_reach_22 rfl hl (by decide) rfl (fun ls hl => ?_)
        refine lv_aload_n hx hb dX5_reach_23 rfl (lv_at hl 1 rfl) ?_
        refine zw_get (C := RX5) (T := TX5) (M := 12) (v := .ref (ad 1)) hx hb hts hi_X5 hown hK hP kX_0 rfl 0 (by decide) hw0 rfl dX5_reach_24 ?_
        refine zw_get (C := RX2) (T := TX2) (M := 7) (v := .ref (ad 2)) hx hb hts hi_X2 hown hK hP (oS sS1) rfl 4 (by decide) hw2 rfl dX5_reach_27 ?_
        refine lv_aload_n hx hb dX5_reach_30 rfl (lv_at hl 0 rfl) ?_
        refine lv_aload_n hx hb dX5_reach_31 rfl (lv_at hl 1 rfl) ?_
        refine zw_get (C := RX5) (T := TX5) (M := 12) (v := .ref (ad 37)) hx hb hts hi_X5 hown hK hP kX_0 rfl 6 (by decide) hw3 rfl dX5_reach_32 ?_
        refine zc_v (zc_runS (As := [.ref (ad 2), .ref (ad (4 + (x1 : Int32).toNatClampNeg)), .ref (ad 37)]) (rest := []) ⟨hx, hb, hml, hown, hts⟩ (c_X5_putOn l D cc A ad rs 2 (iS1 sS1) (4 + (x1 : Int32).toNatClampNeg) (iSr sS1 (zw_lt hi4)) 37 kX_37 μ2 _ h) (va_cwS 3 hts gX5_reach_X5_putOn rfl rfl rfl (by decide +kernel) ⟨Nat.le_of_ble_eq_true rfl, Nat.le_of_ble_eq_true rfl⟩) hK hN hP hD rfl hl.1 rfl (Nat.le_of_ble_eq_true rfl) dX5_reach_35 ⟨Nat.zero_le _, Nat.zero_le _⟩) hS (fun μ6 H locs h hP hD hS => ?_)
        refine lv_aload_n hx hb dX5_reach_38 rfl (lv_at hl 1 rfl) ?_
        refine lv_aload_n hx hb dX5_reach_39 rfl (lv_at hl 1 rfl) ?_
        refine zw_get (C := RX5) (T := TX5) (M := 12) (v := .ref (ad 1)) hx hb hts hi_X5 hown hK hP kX_0 rfl 0 (by decide) hw0 rfl dX5_reach_40 ?_
        refine zw_get (C := RX2) (T := TX2) (M := 7) (v := .ref (ad 2)) hx hb hts hi_X2 hown hK hP (oS sS1) rfl 4 (by decide) hw2 rfl dX5_reach_43 ?_
        refine zc_i (zc_runV (As := [.ref (ad 2)]) (rest := []) ⟨hx, hb, hml, hown, hts⟩ (c_X5_reachedStates l D cc A ad rs 2 (iS1 sS1) μ6 _ h) (cwV 1 hts gX5_reach_X5_reachedStates rfl rfl rfl (by decide +kernel) ⟨Nat.le_of_ble_eq_true rfl, Nat.le_of_ble_eq_true rfl⟩) kX_0 rfl hK hN hP hD rfl hl.1 rfl (Nat.le_of_ble_eq_true rfl) dX5_reach_46 ⟨Nat.zero_le _, Nat.zero_le _⟩) hS (fun r7 μ8 H locs h hP hD hS => ?_)
        refine lv_aload_n hx hb dX5_reach_49 rfl (lv_at hl 1 rfl) ?_
        refine lv_aload_n hx hb dX5_reach_50 rfl (lv_at hl 1 rfl) ?_
        refine zw_get (C := RX5) (T := TX5) (M := 12) (v := .ref (ad 37)) hx hb hts hi_X5 hown hK hP kX_0 rfl 6 (by decide) hw3 rfl dX5_reach_51 ?_
        refine zc_i (zc_runV (As := [.ref (ad 37)]) (rest := [.int r7]) ⟨hx, hb, hml, hown, hts⟩ (c_X5_reachedStates l D cc A ad rs 37 kX_37 μ8 _ h) (cwV 1 hts gX5_reach_X5_reachedStates rfl rfl rfl (by decide +kernel) ⟨Nat.le_of_ble_eq_true rfl, Nat.le_of_ble_eq_true rfl⟩) kX_0 rfl hK hN hP hD rfl hl.1 rfl (Nat.le_of_ble_eq_true rfl) dX5_reach_54 ⟨Nat.zero_le _, Nat.zero_le _⟩) hS (fun r9 μ10 H locs h hP hD hS => ?_)
        refine lv_ior hx hb dX5_reach_57 ?_
        refine lv_topi (fun y11 ey11 => ?_)
        have h := h y11 ey11
        refine lv_istore_n (lv' := [(3, .int y11), (2, .ref (ad (4 + (x1 : Int32).toNatClampNeg))), (0, .ref (ad 0)), (1, .int x1)]) hx hb dX5_reach_58 rfl hl (by decide) rfl (fun ls hl => ?_)
        refine lv_iconst (v := 0) hx hb dX5_reach_59 (by decide) ?_
        refine lv_istore (lv' := [(4, .int 0), (3, .int y11), (2, .ref (ad (4 + (x1 : Int32).toNatClampNeg))), (0, .ref (ad 0)), (1, .int x1)]) hx hb dX5_reach_60 hl (by decide) rfl (fun ls hl => ?_)
        refine lv_iconst (v := 0) hx hb dX5_reach_62 (by decide) ?_
        refine lv_istore (lv' := [(5, .int 0), (4, .int 0), (3, .int y11), (2, .ref (ad (4 + (x1 : Int32).toNatClampNeg))), (0, .ref (ad 0)), (1, .int x1)]) hx hb dX5_reach_63 hl (by decide) rfl (fun ls hl => ?_)
        exact h hi4 _ _ _ hP hD hS (lv_sub hl [3, 2, 1, 0] rfl)
      · have h := h.2 c3
        refine lv_iconst (v := (-1)) hx hb dX5_reach_11 (by decide) ?_
        exact W.iret (v := (-1)) hx hb hr (fun t ht hW => ⟨⟨(-1), μ2, rfl, h, PW.to hK hN hP hD t ht hW⟩, hS.F ht⟩) hS.2.2 dX5_reach_12
  case b65 =>
    intro b3 b4 b5 μ h hi4 H locs ls hP hD hS hl
    refine lv_iload hx hb dX5_reach_65 (lv_at hl 3 rfl) ?_
    refine lv_bipush (v := 32) hx hb dX5_reach_67 (by decide) ?_
    refine lv_icmp_ge (tgt := 101) hx hb dX5_reach_69 (by decide) (fun c12 => ?_) (fun c12 => ?_)
    · have h := h.1 c12
      refine lv_iload hx hb dX5_reach_101 (lv_at hl 2 rfl) ?_
      exact W.iret (v := b4) hx hb hr (fun t ht hW => ⟨⟨b4, μ, rfl, h, PW.to hK hN hP hD t ht hW⟩, hS.F ht⟩) hS.2.2 dX5_reach_103
    · have h := h.2 c12
      refine lv_aload_n hx hb dX5_reach_72 rfl (lv_at hl 0 rfl) ?_
      refine lv_iload hx hb dX5_reach_73 (lv_at hl 3 rfl) ?_
      obtain ⟨hi13, h⟩ := h
      refine zw_iald hx hb hK hP (iSr sS1 (zw_lt hi4)) hi13 dX5_reach_75 ?_
      refine lv_bipush (v := (-2)) hx hb dX5_reach_76 (by decide) ?_
      refine lv_icmp_eq (tgt := 95) hx hb dX5_reach_78 (by decide) (fun c14 => ?_) (fun c14 => ?_)
      · have h := h.1 c14
        exact h hi4 _ _ _ hP hD hS (lv_sub hl [0, 1, 2, 3] rfl)
      · have h := h.2 c14
        refine lv_iload_n hx hb dX5_reach_81 rfl (lv_at hl 1 rfl) ?_
        refine lv_iload hx hb dX5_reach_82 (lv_at hl 3 rfl) ?_
        refine lv_iconst (v := 4) hx hb dX5_reach_84 (by decide) ?_
        refine lv_idiv hx hb dX5_reach_85 (by decide) ?_
        refine zc_i (zc_runS (As := [.int b3, .int (b5 / 4)]) (rest := []) ⟨hx, hb, hml, hown, hts⟩ (c_X5_hasBit l D cc A ad rs b3 (b5 / 4) μ _ h) (va_cwS 2 hts gX5_reach_X5_hasBit rfl rfl rfl (by decide +kernel) ⟨Nat.le_of_ble_eq_true rfl, Nat.le_of_ble_eq_true rfl⟩) hK hN hP hD rfl hl.1 rfl (Nat.le_of_ble_eq_true rfl) dX5_reach_86 ⟨Nat.zero_le _, Nat.zero_le _⟩) hS (fun r15 μ16 H locs h hP hD hS => ?_)
        refine lv_if_eq (tgt := 95) hx hb dX5_reach_89 (by decide) (fun c17 => ?_) (fun c17 => ?_)
        · have h := h.1 c17
          exact h hi4 _ _ _ hP hD hS (lv_sub hl [0, 1, 2, 3] rfl)
        · have h := h.2 c17
          obtain ⟨y18, ey18⟩ : ∃ y : Int32, y = b4 + 1 := ⟨_, rfl⟩
          have h := h y18 ey18
          refine lv_iinc (v := y18) (lv' := [(4, .int y18), (2, .ref (ad (4 + (x1 : Int32).toNatClampNeg))), (3, .int b3), (5, .int b5)]) hx hb dX5_reach_92 hl (k := 2) rfl (by rw [ey18]; rfl) (by decide) rfl (fun ls hl => ?_)
          exact h hi4 _ _ _ hP hD hS (lv_sub hl [1, 2, 0, 3] rfl)
  case b95 =>
    intro b3 b4 b5 μ h hi4 H locs ls hP hD hS hl
    obtain ⟨y19, ey19⟩ : ∃ y : Int32, y = b5 + 1 := ⟨_, rfl⟩
    have h := h y19 ey19
    refine lv_iinc (v := y19) (lv' := [(5, .int y19), (2, .ref (ad (4 + (x1 : Int32).toNatClampNeg))), (3, .int b3), (4, .int b4)]) hx hb dX5_reach_95 hl (k := 3) rfl (by rw [ey19]; rfl) (by decide) rfl (fun ls hl => ?_)
    refine lv_goto (tgt := 65) hx hb dX5_reach_98 (by decide) ?_
    exact h hi4 _ _ _ hP hD hS (lv_sub hl [1, 2, 3, 0] rfl)
set_option maxHeartbeats 4000000 in
set_option maxRecDepth 100000 in
theorem c_X5_setBefore (l : Launch) (D : va_G) (cc : Nat → ClassId) (A : Nat → Prop) (ad : Nat → Nat) (rs : va_W) (x1 : Int32) (x2 : Int32) (μ : Mem) (K : Int32 → Mem → Prop) (h : f_X5_setBefore x1 x2 μ K) : Met l yX5_setBefore wsX5_setBefore ({ frames := 3, cells := 0, slots := 0, locals := 67 }) (va_Pc [.ref (ad 0), .int x1, .int x2] (PW shX 67 D cc A ad rs μ)) (va_Qi K (PW shX 67 D cc A ad rs) A) 0 0 A := by
  refine Met.ofW (cc := cX5_setBefore) (maxL := 3) (ret := (some .int)) (by decide) rfl ?_
  intro p e s m args below meth c s₁ BB hml hv
  obtain ⟨rfl, hP, hK, hD, hN⟩ := hv
  have hx := BB.exec
  have hb := BB.bytes
  have hr := BB.returns
  have hts := atoms_spec (ws := wsX5_setBefore) BB.pre
  have hown : s.vm.findClass RX5 = some m.cls := findClass_of_methodNamed BB.named
  have hlocks := BB.notSynchronized
  have hi_X5 : ∀ w ∈ u_ws RX5 TX5 12, w ∈ wsX5_setBefore := by decide +kernel
  have hw0 := hts (.fieldLink RX5 12 "FeatureClashes" "setup" "LFeatureClashes$Setup;") (by decide +kernel)
  have hS : va_S A s.heap s.heap [] := va_S.rf
  have hl := lv_entry ([.ref (ad 0), .int x1, .int x2]) (n := 3) (Nat.le_of_ble_eq_true rfl)
  rw [lg_entry_eq]
  generalize (lg_sl ([.ref (ad 0), .int x1, .int x2]) ++ List.replicate (3 - (lg_sl ([.ref (ad 0), .int x1, .int x2])).length) Slot.unset).toArray = ls at hl ⊢
  have hl : lv_has ls 3 [(0, .ref (ad 0)), (1, .int x1), (2, .int x2)] := hl
  unfold f_X5_setBefore at h
  refine lv_aload_n hx hb dX5_setBefore_0 rfl (lv_at hl 0 rfl) ?_
  refine lv_iload_n hx hb dX5_setBefore_1 rfl (lv_at hl 1 rfl) ?_
  refine lv_iload_n hx hb dX5_setBefore_2 rfl (lv_at hl 2 rfl) ?_
  refine zc_i (zc_runV (As := [.int x1, .int x2]) (rest := []) ⟨hx, hb, hml, hown, hts⟩ (c_X5_areTwoFeatures l D cc A ad rs x1 x2 μ _ h) (cwV 2 hts gX5_setBefore_X5_areTwoFeatures rfl rfl rfl (by decide +kernel) ⟨Nat.le_of_ble_eq_true rfl, Nat.le_of_ble_eq_true rfl⟩) kX_0 rfl hK hN hP hD rfl hl.1 rfl (Nat.le_of_ble_eq_true rfl) dX5_setBefore_3 ⟨Nat.zero_le _, Nat.zero_le _⟩) hS (fun r1 μ2 H locs h hP hD hS => ?_)
  refine lv_if_ne (tgt := 11) hx hb dX5_setBefore_6 (by decide) (fun c3 => ?_) (fun c3 => ?_)
  · have h := h.1 c3
    refine lv_aload_n hx hb dX5_setBefore_11 rfl (lv_at hl 0 rfl) ?_
    refine zw_get (C := RX5) (T := TX5) (M := 12) (v := .ref (ad 1)) hx hb hts hi_X5 hown hK hP kX_0 rfl 0 (by decide) hw0 rfl dX5_setBefore_12 ?_
    refine lv_iload_n hx hb dX5_setBefore_15 rfl (lv_at hl 2 rfl) ?_
    refine lv_iload_n hx hb dX5_setBefore_16 rfl (lv_at hl 1 rfl) ?_
    refine zc_i (zc_runV (As := [.int x2, .int x1]) (rest := []) ⟨hx, hb, hml, hown, hts⟩ (c_X2_stands l D cc A ad rs 1 sS1 x2 x1 μ2 _ h) (cwV 2 hts gX5_setBefore_X2_stands rfl rfl rfl (by decide +kernel) ⟨Nat.le_of_ble_eq_true rfl, Nat.le_of_ble_eq_true rfl⟩) (oS sS1) rfl hK hN hP hD rfl hl.1 rfl (Nat.le_of_ble_eq_true rfl) dX5_setBefore_17 ⟨Nat.zero_le _, Nat.zero_le _⟩) hS (fun r4 μ5 H locs h hP hD hS => ?_)
    refine lv_if_eq (tgt := 26) hx hb dX5_setBefore_20 (by decide) (fun c6 => ?_) (fun c6 => ?_)
    · have h := h.1 c6
      refine lv_aload_n hx hb dX5_setBefore_26 rfl (lv_at hl 0 rfl) ?_
      refine zw_get (C := RX5) (T := TX5) (M := 12) (v := .ref (ad 1)) hx hb hts hi_X5 hown hK hP kX_0 rfl 0 (by decide) hw0 rfl dX5_setBefore_27 ?_
      refine lv_iload_n hx hb dX5_setBefore_30 rfl (lv_at hl 1 rfl) ?_
      refine lv_iload_n hx hb dX5_setBefore_31 rfl (lv_at hl 2 rfl) ?_
      refine zc_v (zc_runV (As := [.int x1, .int x2]) (rest := []) ⟨hx, hb, hml, hown, hts⟩ (c_X2_prefer l D cc A ad rs 1 sS1 x1 x2 μ5 _ h) (cwV 2 hts gX5_setBefore_X2_prefer rfl rfl rfl (by decide +kernel) ⟨Nat.le_of_ble_eq_true rfl, Nat.le_of_ble_eq_true rfl⟩) (oS sS1) rfl hK hN hP hD rfl hl.1 rfl (Nat.le_of_ble_eq_true rfl) dX5_setBefore_32 ⟨Nat.zero_le _, Nat.zero_le _⟩) hS (fun μ8 H locs h hP hD hS => ?_)
      refine lv_aload_n hx hb dX5_setBefore_35 rfl (lv_at hl 0 rfl) ?_
      refine zw_get (C := RX5) (T := TX5) (M := 12) (v := .ref (ad 1)) hx hb hts hi_X5 hown hK hP kX_0 rfl 0 (by decide) hw0 rfl dX5_setBefore_36 ?_
      refine zc_i (zc_runV (As := []) (rest := []) ⟨hx, hb, hml, hown, hts⟩ (c_X2_countPriorities l D cc A ad rs 1 sS1 μ8 _ h) (cwV 0 hts gX5_setBefore_X2_countPriorities rfl rfl rfl (by decide +kernel) ⟨Nat.le_of_ble_eq_true rfl, Nat.le_of_ble_eq_true rfl⟩) (oS sS1) rfl hK hN hP hD rfl hl.1 rfl (Nat.le_of_ble_eq_true rfl) dX5_setBefore_39 ⟨Nat.zero_le _, Nat.zero_le _⟩) hS (fun r9 μ10 H locs h hP hD hS => ?_)
      exact W.iret (v := r9) hx hb hr (fun t ht hW => ⟨⟨r9, μ10, rfl, h, PW.to hK hN hP hD t ht hW⟩, hS.F ht⟩) hS.2.2 dX5_setBefore_42
    · have h := h.2 c6
      refine lv_bipush (v := (-3)) hx hb dX5_setBefore_23 (by decide) ?_
      exact W.iret (v := (-3)) hx hb hr (fun t ht hW => ⟨⟨(-3), μ5, rfl, h, PW.to hK hN hP hD t ht hW⟩, hS.F ht⟩) hS.2.2 dX5_setBefore_25
  · have h := h.2 c3
    refine lv_iconst (v := (-1)) hx hb dX5_setBefore_9 (by decide) ?_
    exact W.iret (v := (-1)) hx hb hr (fun t ht hW => ⟨⟨(-1), μ2, rfl, h, PW.to hK hN hP hD t ht hW⟩, hS.F ht⟩) hS.2.2 dX5_setBefore_10
set_option maxHeartbeats 4000000 in
set_option maxRecDepth 100000 in
theorem c_X5_clearPriorities (l : Launch) (D : va_G) (cc : Nat → ClassId) (A : Nat → Prop) (ad : Nat → Nat) (rs : va_W)  (μ : Mem) (K : Int32 → Mem → Prop) (h : f_X5_clearPriorities  μ K) : Met l yX5_clearPriorities wsX5_clearPriorities ({ frames := 2, cells := 0, slots := 0, locals := 42 }) (va_Pc [.ref (ad 0)] (PW shX 67 D cc A ad rs μ)) (va_Qi K (PW shX 67 D cc A ad rs) A) 0 0 A := by
  refine Met.ofW (cc := cX5_clearPriorities) (maxL := 2) (ret := (some .int)) (by decide) rfl ?_
  intro p e s m args below meth c s₁ BB hml hv
  obtain ⟨rfl, hP, hK, hD, hN⟩ := hv
  have hx := BB.exec
  have hb := BB.bytes
  have hr := BB.returns
  have hts := atoms_spec (ws := wsX5_clearPriorities) BB.pre
  have hown : s.vm.findClass RX5 = some m.cls := findClass_of_methodNamed BB.named
  have hlocks := BB.notSynchronized
  have hi_X5 : ∀ w ∈ u_ws RX5 TX5 12, w ∈ wsX5_clearPriorities := by decide +kernel
  have hi_X2 : ∀ w ∈ u_ws RX2 TX2 7, w ∈ wsX5_clearPriorities := by decide +kernel
  have hw0 := hts (.fieldLink RX5 12 "FeatureClashes" "setup" "LFeatureClashes$Setup;") (by decide +kernel)
  have hw1 := hts (.fieldLink RX5 183 "FeatureClashes$Setup" "earlier" "[I") (by decide +kernel)
  have hS : va_S A s.heap s.heap [] := va_S.rf
  have hl := lv_entry ([.ref (ad 0)]) (n := 2) (Nat.le_of_ble_eq_true rfl)
  rw [lg_entry_eq]
  generalize (lg_sl ([.ref (ad 0)]) ++ List.replicate (2 - (lg_sl ([.ref (ad 0)])).length) Slot.unset).toArray = ls at hl ⊢
  have hl : lv_has ls 2 [(0, .ref (ad 0))] := hl
  unfold f_X5_clearPriorities at h
  refine lv_aload_n hx hb dX5_clearPriorities_0 rfl (lv_at hl 0 rfl) ?_
  refine zw_get (C := RX5) (T := TX5) (M := 12) (v := .ref (ad 1)) hx hb hts hi_X5 hown hK hP kX_0 rfl 0 (by decide) hw0 rfl dX5_clearPriorities_1 ?_
  refine zc_i (zc_runV (As := []) (rest := []) ⟨hx, hb, hml, hown, hts⟩ (c_X2_countPriorities l D cc A ad rs 1 sS1 μ _ h) (cwV 0 hts gX5_clearPriorities_X2_countPriorities rfl rfl rfl (by decide +kernel) ⟨Nat.le_of_ble_eq_true rfl, Nat.le_of_ble_eq_true rfl⟩) (oS sS1) rfl hK hN hP hD rfl hl.1 rfl (Nat.le_of_ble_eq_true rfl) dX5_clearPriorities_4 ⟨Nat.zero_le _, Nat.zero_le _⟩) hS (fun r1 μ2 H locs h hP hD hS => ?_)
  refine lv_istore_n (lv' := [(1, .int r1), (0, .ref (ad 0))]) hx hb dX5_clearPriorities_7 rfl hl (by decide) rfl (fun ls hl => ?_)
  refine lv_aload_n hx hb dX5_clearPriorities_8 rfl (lv_at hl 1 rfl) ?_
  refine zw_get (C := RX5) (T := TX5) (M := 12) (v := .ref (ad 1)) hx hb hts hi_X5 hown hK hP kX_0 rfl 0 (by decide) hw0 rfl dX5_clearPriorities_9 ?_
  refine zw_get (C := RX2) (T := TX2) (M := 7) (v := .ref (ad 10)) hx hb hts hi_X2 hown hK hP (oS sS1) rfl 6 (by decide) hw1 rfl dX5_clearPriorities_12 ?_
  refine lv_iconst (v := 0) hx hb dX5_clearPriorities_15 (by decide) ?_
  refine zc_v (zc_runS (As := [.ref (ad 10), .int 0]) (rest := []) ⟨hx, hb, hml, hown, hts⟩ (c_J7_fill_53178 l D cc A ad rs 10 6 (iS9 sS1) 0 μ2 _ h) (va_cwS 2 hts gX5_clearPriorities_J7_fill_53178 rfl rfl rfl (by decide +kernel) ⟨Nat.le_of_ble_eq_true rfl, Nat.le_of_ble_eq_true rfl⟩) hK hN hP hD rfl hl.1 rfl (Nat.le_of_ble_eq_true rfl) dX5_clearPriorities_16 ⟨Nat.zero_le _, Nat.zero_le _⟩) hS (fun μ4 H locs h hP hD hS => ?_)
  refine lv_iload_n hx hb dX5_clearPriorities_19 rfl (lv_at hl 0 rfl) ?_
  exact W.iret (v := r1) hx hb hr (fun t ht hW => ⟨⟨r1, μ4, rfl, h, PW.to hK hN hP hD t ht hW⟩, hS.F ht⟩) hS.2.2 dX5_clearPriorities_20
set_option maxHeartbeats 4000000 in
set_option maxRecDepth 100000 in
theorem c_X5_isBefore (l : Launch) (D : va_G) (cc : Nat → ClassId) (A : Nat → Prop) (ad : Nat → Nat) (rs : va_W) (x1 : Int32) (x2 : Int32) (μ : Mem) (K : Int32 → Mem → Prop) (h : f_X5_isBefore x1 x2 μ K) : Met l yX5_isBefore wsX5_isBefore ({ frames := 2, cells := 0, slots := 0, locals := 43 }) (va_Pc [.ref (ad 0), .int x1, .int x2] (PW shX 67 D cc A ad rs μ)) (va_Qi K (PW shX 67 D cc A ad rs) A) 0 0 A := by
  refine Met.ofW (cc := cX5_isBefore) (maxL := 3) (ret := (some .int)) (by decide) rfl ?_
  intro p e s m args below meth c s₁ BB hml hv
  obtain ⟨rfl, hP, hK, hD, hN⟩ := hv
  have hx := BB.exec
  have hb := BB.bytes
  have hr := BB.returns
  have hts := atoms_spec (ws := wsX5_isBefore) BB.pre
  have hown : s.vm.findClass RX5 = some m.cls := findClass_of_methodNamed BB.named
  have hlocks := BB.notSynchronized
  have hi_X5 : ∀ w ∈ u_ws RX5 TX5 12, w ∈ wsX5_isBefore := by decide +kernel
  have hw0 := hts (.fieldLink RX5 12 "FeatureClashes" "setup" "LFeatureClashes$Setup;") (by decide +kernel)
  have hS : va_S A s.heap s.heap [] := va_S.rf
  have hl := lv_entry ([.ref (ad 0), .int x1, .int x2]) (n := 3) (Nat.le_of_ble_eq_true rfl)
  rw [lg_entry_eq]
  generalize (lg_sl ([.ref (ad 0), .int x1, .int x2]) ++ List.replicate (3 - (lg_sl ([.ref (ad 0), .int x1, .int x2])).length) Slot.unset).toArray = ls at hl ⊢
  have hl : lv_has ls 3 [(0, .ref (ad 0)), (1, .int x1), (2, .int x2)] := hl
  unfold f_X5_isBefore at h
  refine lv_aload_n hx hb dX5_isBefore_0 rfl (lv_at hl 0 rfl) ?_
  refine zw_get (C := RX5) (T := TX5) (M := 12) (v := .ref (ad 1)) hx hb hts hi_X5 hown hK hP kX_0 rfl 0 (by decide) hw0 rfl dX5_isBefore_1 ?_
  refine lv_iload_n hx hb dX5_isBefore_4 rfl (lv_at hl 1 rfl) ?_
  refine zc_i (zc_runV (As := [.int x1]) (rest := []) ⟨hx, hb, hml, hown, hts⟩ (c_X2_hasFeature l D cc A ad rs 1 sS1 x1 μ _ h) (cwV 1 hts gX5_isBefore_X2_hasFeature rfl rfl rfl (by decide +kernel) ⟨Nat.le_of_ble_eq_true rfl, Nat.le_of_ble_eq_true rfl⟩) (oS sS1) rfl hK hN hP hD rfl hl.1 rfl (Nat.le_of_ble_eq_true rfl) dX5_isBefore_5 ⟨Nat.zero_le _, Nat.zero_le _⟩) hS (fun r1 μ2 H locs h hP hD hS => ?_)
  refine lv_if_eq (tgt := 22) hx hb dX5_isBefore_8 (by decide) (fun c3 => ?_) (fun c3 => ?_)
  · have h := h.1 c3
    refine lv_iconst (v := (-1)) hx hb dX5_isBefore_22 (by decide) ?_
    exact W.iret (v := (-1)) hx hb hr (fun t ht hW => ⟨⟨(-1), μ2, rfl, h, PW.to hK hN hP hD t ht hW⟩, hS.F ht⟩) hS.2.2 dX5_isBefore_23
  · have h := h.2 c3
    refine lv_aload_n hx hb dX5_isBefore_11 rfl (lv_at hl 0 rfl) ?_
    refine zw_get (C := RX5) (T := TX5) (M := 12) (v := .ref (ad 1)) hx hb hts hi_X5 hown hK hP kX_0 rfl 0 (by decide) hw0 rfl dX5_isBefore_12 ?_
    refine lv_iload_n hx hb dX5_isBefore_15 rfl (lv_at hl 2 rfl) ?_
    refine zc_i (zc_runV (As := [.int x2]) (rest := []) ⟨hx, hb, hml, hown, hts⟩ (c_X2_hasFeature l D cc A ad rs 1 sS1 x2 μ2 _ h) (cwV 1 hts gX5_isBefore_X2_hasFeature rfl rfl rfl (by decide +kernel) ⟨Nat.le_of_ble_eq_true rfl, Nat.le_of_ble_eq_true rfl⟩) (oS sS1) rfl hK hN hP hD rfl hl.1 rfl (Nat.le_of_ble_eq_true rfl) dX5_isBefore_16 ⟨Nat.zero_le _, Nat.zero_le _⟩) hS (fun r4 μ5 H locs h hP hD hS => ?_)
    refine lv_if_ne (tgt := 24) hx hb dX5_isBefore_19 (by decide) (fun c6 => ?_) (fun c6 => ?_)
    · have h := h.1 c6
      refine lv_aload_n hx hb dX5_isBefore_24 rfl (lv_at hl 0 rfl) ?_
      refine zw_get (C := RX5) (T := TX5) (M := 12) (v := .ref (ad 1)) hx hb hts hi_X5 hown hK hP kX_0 rfl 0 (by decide) hw0 rfl dX5_isBefore_25 ?_
      refine lv_iload_n hx hb dX5_isBefore_28 rfl (lv_at hl 1 rfl) ?_
      refine lv_iload_n hx hb dX5_isBefore_29 rfl (lv_at hl 2 rfl) ?_
      refine zc_i (zc_runV (As := [.int x1, .int x2]) (rest := []) ⟨hx, hb, hml, hown, hts⟩ (c_X2_stands l D cc A ad rs 1 sS1 x1 x2 μ5 _ h) (cwV 2 hts gX5_isBefore_X2_stands rfl rfl rfl (by decide +kernel) ⟨Nat.le_of_ble_eq_true rfl, Nat.le_of_ble_eq_true rfl⟩) (oS sS1) rfl hK hN hP hD rfl hl.1 rfl (Nat.le_of_ble_eq_true rfl) dX5_isBefore_30 ⟨Nat.zero_le _, Nat.zero_le _⟩) hS (fun r7 μ8 H locs h hP hD hS => ?_)
      refine lv_if_eq (tgt := 40) hx hb dX5_isBefore_33 (by decide) (fun c9 => ?_) (fun c9 => ?_)
      · have h := h.1 c9
        refine lv_iconst (v := 0) hx hb dX5_isBefore_40 (by decide) ?_
        exact W.iret (v := 0) hx hb hr (fun t ht hW => ⟨⟨0, μ8, rfl, h, PW.to hK hN hP hD t ht hW⟩, hS.F ht⟩) hS.2.2 dX5_isBefore_41
      · have h := h.2 c9
        refine lv_iconst (v := 1) hx hb dX5_isBefore_36 (by decide) ?_
        refine lv_goto (tgt := 41) hx hb dX5_isBefore_37 (by decide) ?_
        exact W.iret (v := 1) hx hb hr (fun t ht hW => ⟨⟨1, μ8, rfl, h, PW.to hK hN hP hD t ht hW⟩, hS.F ht⟩) hS.2.2 dX5_isBefore_41
    · have h := h.2 c6
      refine lv_iconst (v := (-1)) hx hb dX5_isBefore_22 (by decide) ?_
      exact W.iret (v := (-1)) hx hb hr (fun t ht hW => ⟨⟨(-1), μ5, rfl, h, PW.to hK hN hP hD t ht hW⟩, hS.F ht⟩) hS.2.2 dX5_isBefore_23
set_option maxHeartbeats 4000000 in
set_option maxRecDepth 100000 in
theorem c_X5_countOrdersOf (l : Launch) (D : va_G) (cc : Nat → ClassId) (A : Nat → Prop) (ad : Nat → Nat) (rs : va_W) (x1 : Int32) (μ : Mem) (K : Int32 → Mem → Prop) (h : f_X5_countOrdersOf x1 μ K) : Met l yX5_countOrdersOf wsX5_countOrdersOf ({ frames := 0, cells := 0, slots := 0, locals := 0 }) (va_Pc [.ref (ad 0), .int x1] (PW shX 67 D cc A ad rs μ)) (va_Qi K (PW shX 67 D cc A ad rs) A) 0 0 A := by
  refine Met.ofW (cc := cX5_countOrdersOf) (maxL := 5) (ret := (some .int)) (by decide) rfl ?_
  intro p e s m args below meth c s₁ BB hml hv
  obtain ⟨rfl, hP, hK, hD, hN⟩ := hv
  have hx := BB.exec
  have hb := BB.bytes
  have hr := BB.returns
  have hts := atoms_spec (ws := wsX5_countOrdersOf) BB.pre
  have hown : s.vm.findClass RX5 = some m.cls := findClass_of_methodNamed BB.named
  have hlocks := BB.notSynchronized
  have hi_X5 : ∀ w ∈ u_ws RX5 TX5 12, w ∈ wsX5_countOrdersOf := by decide +kernel
  have hi_X2 : ∀ w ∈ u_ws RX2 TX2 7, w ∈ wsX5_countOrdersOf := by decide +kernel
  have hw0 := hts (.fieldLink RX5 12 "FeatureClashes" "setup" "LFeatureClashes$Setup;") (by decide +kernel)
  have hw1 := hts (.fieldLink RX5 99 "FeatureClashes$Setup" "featureCount" "I") (by decide +kernel)
  have hw2 := hts (.fieldLink RX5 183 "FeatureClashes$Setup" "earlier" "[I") (by decide +kernel)
  have hw3 := hts (.fieldLink RX5 192 "FeatureClashes$Setup" "onSet" "I") (by decide +kernel)
  have hw4 := hts (.fieldLink RX5 48 "FeatureClashes" "orderCounts" "[I") (by decide +kernel)
  have hS : va_S A s.heap s.heap [] := va_S.rf
  have hl := lv_entry ([.ref (ad 0), .int x1]) (n := 5) (Nat.le_of_ble_eq_true rfl)
  rw [lg_entry_eq]
  generalize (lg_sl ([.ref (ad 0), .int x1]) ++ List.replicate (5 - (lg_sl ([.ref (ad 0), .int x1])).length) Slot.unset).toArray = ls at hl ⊢
  have hl : lv_has ls 5 [(0, .ref (ad 0)), (1, .int x1)] := hl
  unfold f_X5_countOrdersOf at h
  refine (fun h => ?main) (h (fun b1 b2 b3 μ => ∀ (H1 : Heap) (locs : List Loc) (ls : Array Slot), va_P D vwCl (wW shX 67 cc ad μ ++ rs) H1 → va_D A (wW shX 67 cc ad μ ++ rs) → va_S A s.heap H1 locs → lv_has ls 5 [(0, .ref (ad 0)), (1, .int b1), (2, .int b2), (3, .int b3)] → W p l e (headSpec wsX5_countOrdersOf ({ frames := 0, cells := 0, slots := 0, locals := 0 })).room s m ([.ref (ad 0), .int x1] : List Value).toArray below meth c H1 locs 0 0 (MQ below (va_Qi K (PW shX 67 D cc A ad rs) A) ([.ref (ad 0), .int x1] : List Value).toArray s 0 0 A) (F0 m 4 ls ([]))) (fun b1 b2 b3 μ => ∀ (H1 : Heap) (locs : List Loc) (ls : Array Slot), va_P D vwCl (wW shX 67 cc ad μ ++ rs) H1 → va_D A (wW shX 67 cc ad μ ++ rs) → va_S A s.heap H1 locs → lv_has ls 5 [(0, .ref (ad 0)), (1, .int b1), (2, .int b2), (3, .int b3)] → W p l e (headSpec wsX5_countOrdersOf ({ frames := 0, cells := 0, slots := 0, locals := 0 })).room s m ([.ref (ad 0), .int x1] : List Value).toArray below meth c H1 locs 0 0 (MQ below (va_Qi K (PW shX 67 D cc A ad rs) A) ([.ref (ad 0), .int x1] : List Value).toArray s 0 0 A) (F0 m 65 ls ([]))) ?b4 ?b65)
  case main =>
      refine lv_iconst (v := 0) hx hb dX5_countOrdersOf_0 (by decide) ?_
      refine lv_istore_n (lv' := [(2, .int 0), (0, .ref (ad 0)), (1, .int x1)]) hx hb dX5_countOrdersOf_1 rfl hl (by decide) rfl (fun ls hl => ?_)
      refine lv_iconst (v := 0) hx hb dX5_countOrdersOf_2 (by decide) ?_
      refine lv_istore_n (lv' := [(3, .int 0), (2, .int 0), (0, .ref (ad 0)), (1, .int x1)]) hx hb dX5_countOrdersOf_3 rfl hl (by decide) rfl (fun ls hl => ?_)
      exact h _ _ _ hP hD hS (lv_sub hl [2, 3, 1, 0] rfl)
  case b4 =>
    intro b1 b2 b3 μ h H locs ls hP hD hS hl
    refine lv_iload_n hx hb dX5_countOrdersOf_4 rfl (lv_at hl 3 rfl) ?_
    refine lv_aload_n hx hb dX5_countOrdersOf_5 rfl (lv_at hl 0 rfl) ?_
    refine zw_get (C := RX5) (T := TX5) (M := 12) (v := .ref (ad 1)) hx hb hts hi_X5 hown hK hP kX_0 rfl 0 (by decide) hw0 rfl dX5_countOrdersOf_6 ?_
    refine zw_get (C := RX2) (T := TX2) (M := 7) (v := .int (μ.1 1 2)) hx hb hts hi_X2 hown hK hP (oS sS1) rfl 2 (by decide) hw1 rfl dX5_countOrdersOf_9 ?_
    refine lv_icmp_ge (tgt := 71) hx hb dX5_countOrdersOf_12 (by decide) (fun c1 => ?_) (fun c1 => ?_)
    · have h := h.1 c1
      refine lv_iload_n hx hb dX5_countOrdersOf_71 rfl (lv_at hl 2 rfl) ?_
      exact W.iret (v := b2) hx hb hr (fun t ht hW => ⟨⟨b2, μ, rfl, h, PW.to hK hN hP hD t ht hW⟩, hS.F ht⟩) hS.2.2 dX5_countOrdersOf_72
    · have h := h.2 c1
      refine lv_iload_n hx hb dX5_countOrdersOf_15 rfl (lv_at hl 1 rfl) ?_
      refine lv_iconst (v := 1) hx hb dX5_countOrdersOf_16 (by decide) ?_
      refine lv_iload_n hx hb dX5_countOrdersOf_17 rfl (lv_at hl 3 rfl) ?_
      refine lv_ishl hx hb dX5_countOrdersOf_18 ?_
      refine lv_iconst (v := (-1)) hx hb dX5_countOrdersOf_19 (by decide) ?_
      refine lv_ixor hx hb dX5_countOrdersOf_20 ?_
      refine lv_iand hx hb dX5_countOrdersOf_21 ?_
      refine lv_topi (fun y2 ey2 => ?_)
      have h := h y2 ey2
      refine lv_istore (lv' := [(4, .int y2), (0, .ref (ad 0)), (1, .int b1), (2, .int b2), (3, .int b3)]) hx hb dX5_countOrdersOf_22 hl (by decide) rfl (fun ls hl => ?_)
      refine lv_iload hx hb dX5_countOrdersOf_24 (lv_at hl 0 rfl) ?_
      refine lv_iload_n hx hb dX5_countOrdersOf_26 rfl (lv_at hl 2 rfl) ?_
      refine lv_icmp_eq (tgt := 65) hx hb dX5_countOrdersOf_27 (by decide) (fun c3 => ?_) (fun c3 => ?_)
      · have h := h.1 c3
        exact h _ _ _ hP hD hS (lv_sub hl [1, 2, 3, 4] rfl)
      · have h := h.2 c3
        refine lv_aload_n hx hb dX5_countOrdersOf_30 rfl (lv_at hl 1 rfl) ?_
        refine zw_get (C := RX5) (T := TX5) (M := 12) (v := .ref (ad 1)) hx hb hts hi_X5 hown hK hP kX_0 rfl 0 (by decide) hw0 rfl dX5_countOrdersOf_31 ?_
        refine zw_get (C := RX2) (T := TX2) (M := 7) (v := .ref (ad 10)) hx hb hts hi_X2 hown hK hP (oS sS1) rfl 6 (by decide) hw2 rfl dX5_countOrdersOf_34 ?_
        refine lv_iload_n hx hb dX5_countOrdersOf_37 rfl (lv_at hl 4 rfl) ?_
        obtain ⟨hi4, h⟩ := h
        refine zw_iald hx hb hK hP (iS9 sS1) hi4 dX5_countOrdersOf_38 ?_
        refine lv_aload_n hx hb dX5_countOrdersOf_39 rfl (lv_at hl 1 rfl) ?_
        refine zw_get (C := RX5) (T := TX5) (M := 12) (v := .ref (ad 1)) hx hb hts hi_X5 hown hK hP kX_0 rfl 0 (by decide) hw0 rfl dX5_countOrdersOf_40 ?_
        refine zw_get (C := RX2) (T := TX2) (M := 7) (v := .int (μ.1 1 3)) hx hb hts hi_X2 hown hK hP (oS sS1) rfl 3 (by decide) hw3 rfl dX5_countOrdersOf_43 ?_
        refine lv_iand hx hb dX5_countOrdersOf_46 ?_
        refine lv_iload hx hb dX5_countOrdersOf_47 (lv_at hl 0 rfl) ?_
        refine lv_iconst (v := (-1)) hx hb dX5_countOrdersOf_49 (by decide) ?_
        refine lv_ixor hx hb dX5_countOrdersOf_50 ?_
        refine lv_iand hx hb dX5_countOrdersOf_51 ?_
        refine lv_if_ne (tgt := 65) hx hb dX5_countOrdersOf_52 (by decide) (fun c5 => ?_) (fun c5 => ?_)
        · have h := h.1 c5
          exact h _ _ _ hP hD hS (lv_sub hl [1, 2, 3, 4] rfl)
        · have h := h.2 c5
          refine lv_iload_n hx hb dX5_countOrdersOf_55 rfl (lv_at hl 3 rfl) ?_
          refine lv_aload_n hx hb dX5_countOrdersOf_56 rfl (lv_at hl 1 rfl) ?_
          refine zw_get (C := RX5) (T := TX5) (M := 12) (v := .ref (ad 40)) hx hb hts hi_X5 hown hK hP kX_0 rfl 9 (by decide) hw4 rfl dX5_countOrdersOf_57 ?_
          refine lv_iload hx hb dX5_countOrdersOf_60 (lv_at hl 0 rfl) ?_
          obtain ⟨hi6, h⟩ := h
          refine zw_iald hx hb hK hP kX_40 hi6 dX5_countOrdersOf_62 ?_
          refine lv_iadd hx hb dX5_countOrdersOf_63 ?_
          refine lv_topi (fun y7 ey7 => ?_)
          have h := h y7 ey7
          refine lv_istore_n (lv' := [(2, .int y7), (4, .int y2), (0, .ref (ad 0)), (1, .int b1), (3, .int b3)]) hx hb dX5_countOrdersOf_64 rfl hl (by decide) rfl (fun ls hl => ?_)
          exact h _ _ _ hP hD hS (lv_sub hl [2, 3, 0, 4] rfl)
  case b65 =>
    intro b1 b2 b3 μ h H locs ls hP hD hS hl
    obtain ⟨y8, ey8⟩ : ∃ y : Int32, y = b3 + 1 := ⟨_, rfl⟩
    have h := h y8 ey8
    refine lv_iinc (v := y8) (lv' := [(3, .int y8), (0, .ref (ad 0)), (1, .int b1), (2, .int b2)]) hx hb dX5_countOrdersOf_65 hl (k := 3) rfl (by rw [ey8]; rfl) (by decide) rfl (fun ls hl => ?_)
    refine lv_goto (tgt := 4) hx hb dX5_countOrdersOf_68 (by decide) ?_
    exact h _ _ _ hP hD hS (lv_sub hl [1, 2, 3, 0] rfl)
set_option maxHeartbeats 4000000 in
set_option maxRecDepth 100000 in
theorem c_X5_orders (l : Launch) (D : va_G) (cc : Nat → ClassId) (A : Nat → Prop) (ad : Nat → Nat) (rs : va_W)  (μ : Mem) (K : Int32 → Mem → Prop) (h : f_X5_orders  μ K) : Met l yX5_orders wsX5_orders ({ frames := 1, cells := 0, slots := 0, locals := 24 }) (va_Pc [.ref (ad 0)] (PW shX 67 D cc A ad rs μ)) (va_Qi K (PW shX 67 D cc A ad rs) A) 0 0 A := by
  refine Met.ofW (cc := cX5_orders) (maxL := 2) (ret := (some .int)) (by decide) rfl ?_
  intro p e s m args below meth c s₁ BB hml hv
  obtain ⟨rfl, hP, hK, hD, hN⟩ := hv
  have hx := BB.exec
  have hb := BB.bytes
  have hr := BB.returns
  have hts := atoms_spec (ws := wsX5_orders) BB.pre
  have hown : s.vm.findClass RX5 = some m.cls := findClass_of_methodNamed BB.named
  have hlocks := BB.notSynchronized
  have hi_X5 : ∀ w ∈ u_ws RX5 TX5 12, w ∈ wsX5_orders := by decide +kernel
  have hi_X2 : ∀ w ∈ u_ws RX2 TX2 7, w ∈ wsX5_orders := by decide +kernel
  have hw0 := hts (.fieldLink RX5 48 "FeatureClashes" "orderCounts" "[I") (by decide +kernel)
  have hw1 := hts (.fieldLink RX5 12 "FeatureClashes" "setup" "LFeatureClashes$Setup;") (by decide +kernel)
  have hw2 := hts (.fieldLink RX5 192 "FeatureClashes$Setup" "onSet" "I") (by decide +kernel)
  have hS : va_S A s.heap s.heap [] := va_S.rf
  have hl := lv_entry ([.ref (ad 0)]) (n := 2) (Nat.le_of_ble_eq_true rfl)
  rw [lg_entry_eq]
  generalize (lg_sl ([.ref (ad 0)]) ++ List.replicate (2 - (lg_sl ([.ref (ad 0)])).length) Slot.unset).toArray = ls at hl ⊢
  have hl : lv_has ls 2 [(0, .ref (ad 0))] := hl
  unfold f_X5_orders at h
  refine (fun h => ?main) (h (fun b1 μ => ∀ (H1 : Heap) (locs : List Loc) (ls : Array Slot), va_P D vwCl (wW shX 67 cc ad μ ++ rs) H1 → va_D A (wW shX 67 cc ad μ ++ rs) → va_S A s.heap H1 locs → lv_has ls 2 [(0, .ref (ad 0)), (1, .int b1)] → W p l e (headSpec wsX5_orders ({ frames := 1, cells := 0, slots := 0, locals := 24 })).room s m ([.ref (ad 0)] : List Value).toArray below meth c H1 locs 0 0 (MQ below (va_Qi K (PW shX 67 D cc A ad rs) A) ([.ref (ad 0)] : List Value).toArray s 0 0 A) (F0 m 9 ls ([]))) (fun b1 z0 z1 μ => ∀ (H1 : Heap) (locs : List Loc) (ls : Array Slot), va_P D vwCl (wW shX 67 cc ad μ ++ rs) H1 → va_D A (wW shX 67 cc ad μ ++ rs) → va_S A s.heap H1 locs → lv_has ls 2 [(0, .ref (ad 0)), (1, .int b1)] → W p l e (headSpec wsX5_orders ({ frames := 1, cells := 0, slots := 0, locals := 24 })).room s m ([.ref (ad 0)] : List Value).toArray below meth c H1 locs 0 0 (MQ below (va_Qi K (PW shX 67 D cc A ad rs) A) ([.ref (ad 0)] : List Value).toArray s 0 0 A) (F0 m 48 ls ([.int z0, .int z1, .ref (ad 40)]))) ?b9 ?b48)
  case main =>
      refine lv_aload_n hx hb dX5_orders_0 rfl (lv_at hl 0 rfl) ?_
      refine zw_get (C := RX5) (T := TX5) (M := 12) (v := .ref (ad 40)) hx hb hts hi_X5 hown hK hP kX_0 rfl 9 (by decide) hw0 rfl dX5_orders_1 ?_
      refine lv_iconst (v := 0) hx hb dX5_orders_4 (by decide) ?_
      refine lv_iconst (v := 1) hx hb dX5_orders_5 (by decide) ?_
      obtain ⟨hi1, h⟩ := h
      refine zw_iast hx hb hK hP hD hS kX_40 hi1 dX5_orders_6 (fun μ2 H locs eμ2 hP hD hS => ?_)
      have h := h μ2 eμ2
      refine lv_iconst (v := 1) hx hb dX5_orders_7 (by decide) ?_
      refine lv_istore_n (lv' := [(1, .int 1), (0, .ref (ad 0))]) hx hb dX5_orders_8 rfl hl (by decide) rfl (fun ls hl => ?_)
      exact h _ _ _ hP hD hS (lv_sub hl [1, 0] rfl)
  case b9 =>
    intro b1 μ h H locs ls hP hD hS hl
    refine lv_iload_n hx hb dX5_orders_9 rfl (lv_at hl 1 rfl) ?_
    refine lv_aload_n hx hb dX5_orders_10 rfl (lv_at hl 0 rfl) ?_
    refine zw_get (C := RX5) (T := TX5) (M := 12) (v := .ref (ad 1)) hx hb hts hi_X5 hown hK hP kX_0 rfl 0 (by decide) hw1 rfl dX5_orders_11 ?_
    refine zw_get (C := RX2) (T := TX2) (M := 7) (v := .int (μ.1 1 3)) hx hb hts hi_X2 hown hK hP (oS sS1) rfl 3 (by decide) hw2 rfl dX5_orders_14 ?_
    refine lv_icmp_gt (tgt := 55) hx hb dX5_orders_17 (by decide) (fun c3 => ?_) (fun c3 => ?_)
    · have h := h.1 c3
      refine lv_aload_n hx hb dX5_orders_55 rfl (lv_at hl 0 rfl) ?_
      refine zw_get (C := RX5) (T := TX5) (M := 12) (v := .ref (ad 40)) hx hb hts hi_X5 hown hK hP kX_0 rfl 9 (by decide) hw0 rfl dX5_orders_56 ?_
      refine lv_aload_n hx hb dX5_orders_59 rfl (lv_at hl 0 rfl) ?_
      refine zw_get (C := RX5) (T := TX5) (M := 12) (v := .ref (ad 1)) hx hb hts hi_X5 hown hK hP kX_0 rfl 0 (by decide) hw1 rfl dX5_orders_60 ?_
      refine zw_get (C := RX2) (T := TX2) (M := 7) (v := .int (μ.1 1 3)) hx hb hts hi_X2 hown hK hP (oS sS1) rfl 3 (by decide) hw2 rfl dX5_orders_63 ?_
      obtain ⟨hi4, h⟩ := h
      refine zw_iald hx hb hK hP kX_40 hi4 dX5_orders_66 ?_
      exact W.iret (v := μ.1 40 (μ.1 1 3 : Int32).toNatClampNeg) hx hb hr (fun t ht hW => ⟨⟨μ.1 40 (μ.1 1 3 : Int32).toNatClampNeg, μ, rfl, h, PW.to hK hN hP hD t ht hW⟩, hS.F ht⟩) hS.2.2 dX5_orders_67
    · have h := h.2 c3
      refine lv_aload_n hx hb dX5_orders_20 rfl (lv_at hl 0 rfl) ?_
      refine zw_get (C := RX5) (T := TX5) (M := 12) (v := .ref (ad 40)) hx hb hts hi_X5 hown hK hP kX_0 rfl 9 (by decide) hw0 rfl dX5_orders_21 ?_
      refine lv_iload_n hx hb dX5_orders_24 rfl (lv_at hl 1 rfl) ?_
      refine lv_iload_n hx hb dX5_orders_25 rfl (lv_at hl 1 rfl) ?_
      refine lv_aload_n hx hb dX5_orders_26 rfl (lv_at hl 0 rfl) ?_
      refine zw_get (C := RX5) (T := TX5) (M := 12) (v := .ref (ad 1)) hx hb hts hi_X5 hown hK hP kX_0 rfl 0 (by decide) hw1 rfl dX5_orders_27 ?_
      refine zw_get (C := RX2) (T := TX2) (M := 7) (v := .int (μ.1 1 3)) hx hb hts hi_X2 hown hK hP (oS sS1) rfl 3 (by decide) hw2 rfl dX5_orders_30 ?_
      refine lv_iconst (v := (-1)) hx hb dX5_orders_33 (by decide) ?_
      refine lv_ixor hx hb dX5_orders_34 ?_
      refine lv_iand hx hb dX5_orders_35 ?_
      refine lv_if_ne (tgt := 47) hx hb dX5_orders_36 (by decide) (fun c5 => ?_) (fun c5 => ?_)
      · have h := h.1 c5
        refine lv_iconst (v := 0) hx hb dX5_orders_47 (by decide) ?_
        exact h _ _ _ hP hD hS (lv_sub hl [0, 1] rfl)
      · have h := h.2 c5
        refine lv_aload_n hx hb dX5_orders_39 rfl (lv_at hl 0 rfl) ?_
        refine lv_iload_n hx hb dX5_orders_40 rfl (lv_at hl 1 rfl) ?_
        refine zc_i (zc_runV (As := [.int b1]) (rest := [.int b1, .ref (ad 40)]) ⟨hx, hb, hml, hown, hts⟩ (c_X5_countOrdersOf l D cc A ad rs b1 μ _ h) (cwV 1 hts gX5_orders_X5_countOrdersOf rfl rfl rfl (by decide +kernel) ⟨Nat.le_of_ble_eq_true rfl, Nat.le_of_ble_eq_true rfl⟩) kX_0 rfl hK hN hP hD rfl hl.1 rfl (Nat.le_of_ble_eq_true rfl) dX5_orders_41 ⟨Nat.zero_le _, Nat.zero_le _⟩) hS (fun r6 μ7 H locs h hP hD hS => ?_)
        refine lv_goto (tgt := 48) hx hb dX5_orders_44 (by decide) ?_
        exact h _ _ _ hP hD hS (lv_sub hl [0, 1] rfl)
  case b48 =>
    intro b1 z0 z1 μ h H locs ls hP hD hS hl
    obtain ⟨hi8, h⟩ := h
    refine zw_iast hx hb hK hP hD hS kX_40 hi8 dX5_orders_48 (fun μ9 H locs eμ9 hP hD hS => ?_)
    have h := h μ9 eμ9
    obtain ⟨y10, ey10⟩ : ∃ y : Int32, y = b1 + 1 := ⟨_, rfl⟩
    have h := h y10 ey10
    refine lv_iinc (v := y10) (lv' := [(1, .int y10), (0, .ref (ad 0))]) hx hb dX5_orders_49 hl (k := 1) rfl (by rw [ey10]; rfl) (by decide) rfl (fun ls hl => ?_)
    refine lv_goto (tgt := 9) hx hb dX5_orders_52 (by decide) ?_
    exact h _ _ _ hP hD hS (lv_sub hl [1, 0] rfl)
set_option maxHeartbeats 4000000 in
set_option maxRecDepth 100000 in
theorem c_X5_lowestReady (l : Launch) (D : va_G) (cc : Nat → ClassId) (A : Nat → Prop) (ad : Nat → Nat) (rs : va_W) (x1 : Int32) (μ : Mem) (K : Int32 → Mem → Prop) (h : f_X5_lowestReady x1 μ K) : Met l yX5_lowestReady wsX5_lowestReady ({ frames := 1, cells := 0, slots := 0, locals := 21 }) (va_Pc [.ref (ad 0), .int x1] (PW shX 67 D cc A ad rs μ)) (va_Qi K (PW shX 67 D cc A ad rs) A) 0 0 A := by
  refine Met.ofW (cc := cX5_lowestReady) (maxL := 3) (ret := (some .int)) (by decide) rfl ?_
  intro p e s m args below meth c s₁ BB hml hv
  obtain ⟨rfl, hP, hK, hD, hN⟩ := hv
  have hx := BB.exec
  have hb := BB.bytes
  have hr := BB.returns
  have hts := atoms_spec (ws := wsX5_lowestReady) BB.pre
  have hown : s.vm.findClass RX5 = some m.cls := findClass_of_methodNamed BB.named
  have hlocks := BB.notSynchronized
  have hi_X5 : ∀ w ∈ u_ws RX5 TX5 12, w ∈ wsX5_lowestReady := by decide +kernel
  have hi_X2 : ∀ w ∈ u_ws RX2 TX2 7, w ∈ wsX5_lowestReady := by decide +kernel
  have hw0 := hts (.fieldLink RX5 12 "FeatureClashes" "setup" "LFeatureClashes$Setup;") (by decide +kernel)
  have hw1 := hts (.fieldLink RX5 183 "FeatureClashes$Setup" "earlier" "[I") (by decide +kernel)
  have hS : va_S A s.heap s.heap [] := va_S.rf
  have hl := lv_entry ([.ref (ad 0), .int x1]) (n := 3) (Nat.le_of_ble_eq_true rfl)
  rw [lg_entry_eq]
  generalize (lg_sl ([.ref (ad 0), .int x1]) ++ List.replicate (3 - (lg_sl ([.ref (ad 0), .int x1])).length) Slot.unset).toArray = ls at hl ⊢
  have hl : lv_has ls 3 [(0, .ref (ad 0)), (1, .int x1)] := hl
  unfold f_X5_lowestReady at h
  refine (fun h => ?main) (h (fun b1 b2 μ => ∀ (H1 : Heap) (locs : List Loc) (ls : Array Slot), va_P D vwCl (wW shX 67 cc ad μ ++ rs) H1 → va_D A (wW shX 67 cc ad μ ++ rs) → va_S A s.heap H1 locs → lv_has ls 3 [(0, .ref (ad 0)), (1, .int b1), (2, .int b2)] → W p l e (headSpec wsX5_lowestReady ({ frames := 1, cells := 0, slots := 0, locals := 21 })).room s m ([.ref (ad 0), .int x1] : List Value).toArray below meth c H1 locs 0 0 (MQ below (va_Qi K (PW shX 67 D cc A ad rs) A) ([.ref (ad 0), .int x1] : List Value).toArray s 0 0 A) (F0 m 2 ls ([]))) (fun b1 b2 μ => ∀ (H1 : Heap) (locs : List Loc) (ls : Array Slot), va_P D vwCl (wW shX 67 cc ad μ ++ rs) H1 → va_D A (wW shX 67 cc ad μ ++ rs) → va_S A s.heap H1 locs → lv_has ls 3 [(0, .ref (ad 0)), (1, .int b1), (2, .int b2)] → W p l e (headSpec wsX5_lowestReady ({ frames := 1, cells := 0, slots := 0, locals := 21 })).room s m ([.ref (ad 0), .int x1] : List Value).toArray below meth c H1 locs 0 0 (MQ below (va_Qi K (PW shX 67 D cc A ad rs) A) ([.ref (ad 0), .int x1] : List Value).toArray s 0 0 A) (F0 m 32 ls ([]))) ?b2 ?b32)
  case main =>
      refine lv_iconst (v := 0) hx hb dX5_lowestReady_0 (by decide) ?_
      refine lv_istore_n (lv' := [(2, .int 0), (0, .ref (ad 0)), (1, .int x1)]) hx hb dX5_lowestReady_1 rfl hl (by decide) rfl (fun ls hl => ?_)
      exact h _ _ _ hP hD hS (lv_sub hl [1, 2, 0] rfl)
  case b2 =>
    intro b1 b2 μ h H locs ls hP hD hS hl
    refine lv_iload_n hx hb dX5_lowestReady_2 rfl (lv_at hl 2 rfl) ?_
    refine lv_bipush (v := 6) hx hb dX5_lowestReady_3 (by decide) ?_
    refine lv_icmp_ge (tgt := 38) hx hb dX5_lowestReady_5 (by decide) (fun c1 => ?_) (fun c1 => ?_)
    · have h := h.1 c1
      refine lv_iconst (v := 0) hx hb dX5_lowestReady_38 (by decide) ?_
      exact W.iret (v := 0) hx hb hr (fun t ht hW => ⟨⟨0, μ, rfl, h, PW.to hK hN hP hD t ht hW⟩, hS.F ht⟩) hS.2.2 dX5_lowestReady_39
    · have h := h.2 c1
      refine lv_iload_n hx hb dX5_lowestReady_8 rfl (lv_at hl 1 rfl) ?_
      refine lv_iload_n hx hb dX5_lowestReady_9 rfl (lv_at hl 2 rfl) ?_
      refine zc_i (zc_runS (As := [.int b1, .int b2]) (rest := []) ⟨hx, hb, hml, hown, hts⟩ (c_X5_hasBit l D cc A ad rs b1 b2 μ _ h) (va_cwS 2 hts gX5_lowestReady_X5_hasBit rfl rfl rfl (by decide +kernel) ⟨Nat.le_of_ble_eq_true rfl, Nat.le_of_ble_eq_true rfl⟩) hK hN hP hD rfl hl.1 rfl (Nat.le_of_ble_eq_true rfl) dX5_lowestReady_10 ⟨Nat.zero_le _, Nat.zero_le _⟩) hS (fun r2 μ3 H locs h hP hD hS => ?_)
      refine lv_if_eq (tgt := 32) hx hb dX5_lowestReady_13 (by decide) (fun c4 => ?_) (fun c4 => ?_)
      · have h := h.1 c4
        exact h _ _ _ hP hD hS (lv_sub hl [0, 1, 2] rfl)
      · have h := h.2 c4
        refine lv_aload_n hx hb dX5_lowestReady_16 rfl (lv_at hl 0 rfl) ?_
        refine zw_get (C := RX5) (T := TX5) (M := 12) (v := .ref (ad 1)) hx hb hts hi_X5 hown hK hP kX_0 rfl 0 (by decide) hw0 rfl dX5_lowestReady_17 ?_
        refine zw_get (C := RX2) (T := TX2) (M := 7) (v := .ref (ad 10)) hx hb hts hi_X2 hown hK hP (oS sS1) rfl 6 (by decide) hw1 rfl dX5_lowestReady_20 ?_
        refine lv_iload_n hx hb dX5_lowestReady_23 rfl (lv_at hl 2 rfl) ?_
        obtain ⟨hi5, h⟩ := h
        refine zw_iald hx hb hK hP (iS9 sS1) hi5 dX5_lowestReady_24 ?_
        refine lv_iload_n hx hb dX5_lowestReady_25 rfl (lv_at hl 1 rfl) ?_
        refine lv_iand hx hb dX5_lowestReady_26 ?_
        refine lv_if_ne (tgt := 32) hx hb dX5_lowestReady_27 (by decide) (fun c6 => ?_) (fun c6 => ?_)
        · have h := h.1 c6
          exact h _ _ _ hP hD hS (lv_sub hl [0, 1, 2] rfl)
        · have h := h.2 c6
          refine lv_iload_n hx hb dX5_lowestReady_30 rfl (lv_at hl 2 rfl) ?_
          exact W.iret (v := b2) hx hb hr (fun t ht hW => ⟨⟨b2, μ3, rfl, h, PW.to hK hN hP hD t ht hW⟩, hS.F ht⟩) hS.2.2 dX5_lowestReady_31
  case b32 =>
    intro b1 b2 μ h H locs ls hP hD hS hl
    obtain ⟨y7, ey7⟩ : ∃ y : Int32, y = b2 + 1 := ⟨_, rfl⟩
    have h := h y7 ey7
    refine lv_iinc (v := y7) (lv' := [(2, .int y7), (0, .ref (ad 0)), (1, .int b1)]) hx hb dX5_lowestReady_32 hl (k := 2) rfl (by rw [ey7]; rfl) (by decide) rfl (fun ls hl => ?_)
    refine lv_goto (tgt := 2) hx hb dX5_lowestReady_35 (by decide) ?_
    exact h _ _ _ hP hD hS (lv_sub hl [1, 2, 0] rfl)
set_option maxHeartbeats 4000000 in
set_option maxRecDepth 100000 in
theorem c_X5_findResolvedOrder (l : Launch) (D : va_G) (cc : Nat → ClassId) (A : Nat → Prop) (ad : Nat → Nat) (rs : va_W)  (μ : Mem) (K : Int32 → Mem → Prop) (h : f_X5_findResolvedOrder  μ K) : Met l yX5_findResolvedOrder wsX5_findResolvedOrder ({ frames := 2, cells := 0, slots := 0, locals := 43 }) (va_Pc [.ref (ad 0)] (PW shX 67 D cc A ad rs μ)) (va_Qi K (PW shX 67 D cc A ad rs) A) 0 0 A := by
  refine Met.ofW (cc := cX5_findResolvedOrder) (maxL := 5) (ret := (some .int)) (by decide) rfl ?_
  intro p e s m args below meth c s₁ BB hml hv
  obtain ⟨rfl, hP, hK, hD, hN⟩ := hv
  have hx := BB.exec
  have hb := BB.bytes
  have hr := BB.returns
  have hts := atoms_spec (ws := wsX5_findResolvedOrder) BB.pre
  have hown : s.vm.findClass RX5 = some m.cls := findClass_of_methodNamed BB.named
  have hlocks := BB.notSynchronized
  have hi_X5 : ∀ w ∈ u_ws RX5 TX5 12, w ∈ wsX5_findResolvedOrder := by decide +kernel
  have hi_X2 : ∀ w ∈ u_ws RX2 TX2 7, w ∈ wsX5_findResolvedOrder := by decide +kernel
  have hw0 := hts (.fieldLink RX5 12 "FeatureClashes" "setup" "LFeatureClashes$Setup;") (by decide +kernel)
  have hw1 := hts (.fieldLink RX5 192 "FeatureClashes$Setup" "onSet" "I") (by decide +kernel)
  have hw2 := hts (.fieldLink RX5 45 "FeatureClashes" "resolvedOrder" "[I") (by decide +kernel)
  have hS : va_S A s.heap s.heap [] := va_S.rf
  have hl := lv_entry ([.ref (ad 0)]) (n := 5) (Nat.le_of_ble_eq_true rfl)
  rw [lg_entry_eq]
  generalize (lg_sl ([.ref (ad 0)]) ++ List.replicate (5 - (lg_sl ([.ref (ad 0)])).length) Slot.unset).toArray = ls at hl ⊢
  have hl : lv_has ls 5 [(0, .ref (ad 0))] := hl
  unfold f_X5_findResolvedOrder at h
  refine (fun h => ?main) (h (fun b1 b2 b3 μ => ∀ (H1 : Heap) (locs : List Loc) (ls : Array Slot), va_P D vwCl (wW shX 67 cc ad μ ++ rs) H1 → va_D A (wW shX 67 cc ad μ ++ rs) → va_S A s.heap H1 locs → lv_has ls 5 [(0, .ref (ad 0)), (1, .int b1), (2, .int b2), (3, .int b3)] → W p l e (headSpec wsX5_findResolvedOrder ({ frames := 2, cells := 0, slots := 0, locals := 43 })).room s m ([.ref (ad 0)] : List Value).toArray below meth c H1 locs 0 0 (MQ below (va_Qi K (PW shX 67 D cc A ad rs) A) ([.ref (ad 0)] : List Value).toArray s 0 0 A) (F0 m 12 ls ([]))) ?b12)
  case main =>
      refine lv_aload_n hx hb dX5_findResolvedOrder_0 rfl (lv_at hl 0 rfl) ?_
      refine zw_get (C := RX5) (T := TX5) (M := 12) (v := .ref (ad 1)) hx hb hts hi_X5 hown hK hP kX_0 rfl 0 (by decide) hw0 rfl dX5_findResolvedOrder_1 ?_
      refine zw_get (C := RX2) (T := TX2) (M := 7) (v := .int (μ.1 1 3)) hx hb hts hi_X2 hown hK hP (oS sS1) rfl 3 (by decide) hw1 rfl dX5_findResolvedOrder_4 ?_
      refine lv_topi (fun y1 ey1 => ?_)
      have h := h y1 ey1
      refine lv_istore_n (lv' := [(1, .int y1), (0, .ref (ad 0))]) hx hb dX5_findResolvedOrder_7 rfl hl (by decide) rfl (fun ls hl => ?_)
      refine lv_iconst (v := 0) hx hb dX5_findResolvedOrder_8 (by decide) ?_
      refine lv_istore_n (lv' := [(2, .int 0), (1, .int y1), (0, .ref (ad 0))]) hx hb dX5_findResolvedOrder_9 rfl hl (by decide) rfl (fun ls hl => ?_)
      refine lv_iconst (v := 0) hx hb dX5_findResolvedOrder_10 (by decide) ?_
      refine lv_istore_n (lv' := [(3, .int 0), (2, .int 0), (1, .int y1), (0, .ref (ad 0))]) hx hb dX5_findResolvedOrder_11 rfl hl (by decide) rfl (fun ls hl => ?_)
      exact h _ _ _ hP hD hS (lv_sub hl [3, 2, 1, 0] rfl)
  case b12 =>
    intro b1 b2 b3 μ h H locs ls hP hD hS hl
    refine lv_iload_n hx hb dX5_findResolvedOrder_12 rfl (lv_at hl 3 rfl) ?_
    refine lv_bipush (v := 6) hx hb dX5_findResolvedOrder_13 (by decide) ?_
    refine lv_icmp_ge (tgt := 55) hx hb dX5_findResolvedOrder_15 (by decide) (fun c2 => ?_) (fun c2 => ?_)
    · have h := h.1 c2
      refine lv_iload_n hx hb dX5_findResolvedOrder_55 rfl (lv_at hl 2 rfl) ?_
      exact W.iret (v := b2) hx hb hr (fun t ht hW => ⟨⟨b2, μ, rfl, h, PW.to hK hN hP hD t ht hW⟩, hS.F ht⟩) hS.2.2 dX5_findResolvedOrder_56
    · have h := h.2 c2
      refine lv_iload_n hx hb dX5_findResolvedOrder_18 rfl (lv_at hl 1 rfl) ?_
      refine lv_if_eq (tgt := 55) hx hb dX5_findResolvedOrder_19 (by decide) (fun c3 => ?_) (fun c3 => ?_)
      · have h := h.1 c3
        refine lv_iload_n hx hb dX5_findResolvedOrder_55 rfl (lv_at hl 2 rfl) ?_
        exact W.iret (v := b2) hx hb hr (fun t ht hW => ⟨⟨b2, μ, rfl, h, PW.to hK hN hP hD t ht hW⟩, hS.F ht⟩) hS.2.2 dX5_findResolvedOrder_56
      · have h := h.2 c3
        refine lv_aload_n hx hb dX5_findResolvedOrder_22 rfl (lv_at hl 0 rfl) ?_
        refine lv_iload_n hx hb dX5_findResolvedOrder_23 rfl (lv_at hl 1 rfl) ?_
        refine zc_i (zc_runV (As := [.int b1]) (rest := []) ⟨hx, hb, hml, hown, hts⟩ (c_X5_lowestReady l D cc A ad rs b1 μ _ h) (cwV 1 hts gX5_findResolvedOrder_X5_lowestReady rfl rfl rfl (by decide +kernel) ⟨Nat.le_of_ble_eq_true rfl, Nat.le_of_ble_eq_true rfl⟩) kX_0 rfl hK hN hP hD rfl hl.1 rfl (Nat.le_of_ble_eq_true rfl) dX5_findResolvedOrder_24 ⟨Nat.zero_le _, Nat.zero_le _⟩) hS (fun r4 μ5 H locs h hP hD hS => ?_)
        refine lv_istore (lv' := [(4, .int r4), (0, .ref (ad 0)), (1, .int b1), (2, .int b2), (3, .int b3)]) hx hb dX5_findResolvedOrder_27 hl (by decide) rfl (fun ls hl => ?_)
        refine lv_aload_n hx hb dX5_findResolvedOrder_29 rfl (lv_at hl 1 rfl) ?_
        refine zw_get (C := RX5) (T := TX5) (M := 12) (v := .ref (ad 39)) hx hb hts hi_X5 hown hK hP kX_0 rfl 8 (by decide) hw2 rfl dX5_findResolvedOrder_30 ?_
        refine lv_iload_n hx hb dX5_findResolvedOrder_33 rfl (lv_at hl 4 rfl) ?_
        refine lv_iload hx hb dX5_findResolvedOrder_34 (lv_at hl 0 rfl) ?_
        obtain ⟨hi6, h⟩ := h
        refine zw_iast hx hb hK hP hD hS kX_39 hi6 dX5_findResolvedOrder_36 (fun μ7 H locs eμ7 hP hD hS => ?_)
        have h := h μ7 eμ7
        refine lv_iload_n hx hb dX5_findResolvedOrder_37 rfl (lv_at hl 2 rfl) ?_
        refine lv_iconst (v := 1) hx hb dX5_findResolvedOrder_38 (by decide) ?_
        refine lv_iload hx hb dX5_findResolvedOrder_39 (lv_at hl 0 rfl) ?_
        refine lv_ishl hx hb dX5_findResolvedOrder_41 ?_
        refine lv_iconst (v := (-1)) hx hb dX5_findResolvedOrder_42 (by decide) ?_
        refine lv_ixor hx hb dX5_findResolvedOrder_43 ?_
        refine lv_iand hx hb dX5_findResolvedOrder_44 ?_
        refine lv_topi (fun y8 ey8 => ?_)
        have h := h y8 ey8
        refine lv_istore_n (lv' := [(1, .int y8), (4, .int r4), (0, .ref (ad 0)), (2, .int b2), (3, .int b3)]) hx hb dX5_findResolvedOrder_45 rfl hl (by decide) rfl (fun ls hl => ?_)
        obtain ⟨y9, ey9⟩ : ∃ y : Int32, y = b2 + 1 := ⟨_, rfl⟩
        have h := h y9 ey9
        refine lv_iinc (v := y9) (lv' := [(2, .int y9), (1, .int y8), (4, .int r4), (0, .ref (ad 0)), (3, .int b3)]) hx hb dX5_findResolvedOrder_46 hl (k := 3) rfl (by rw [ey9]; rfl) (by decide) rfl (fun ls hl => ?_)
        obtain ⟨y10, ey10⟩ : ∃ y : Int32, y = b3 + 1 := ⟨_, rfl⟩
        have h := h y10 ey10
        refine lv_iinc (v := y10) (lv' := [(3, .int y10), (2, .int y9), (1, .int y8), (4, .int r4), (0, .ref (ad 0))]) hx hb dX5_findResolvedOrder_49 hl (k := 4) rfl (by rw [ey10]; rfl) (by decide) rfl (fun ls hl => ?_)
        refine lv_goto (tgt := 12) hx hb dX5_findResolvedOrder_52 (by decide) ?_
        exact h _ _ _ hP hD hS (lv_sub hl [4, 2, 1, 0] rfl)
set_option maxHeartbeats 4000000 in
set_option maxRecDepth 100000 in
theorem c_X5_resolved (l : Launch) (D : va_G) (cc : Nat → ClassId) (A : Nat → Prop) (ad : Nat → Nat) (rs : va_W) (x1 : Int32) (μ : Mem) (K : Int32 → Mem → Prop) (h : f_X5_resolved x1 μ K) : Met l yX5_resolved wsX5_resolved ({ frames := 3, cells := 0, slots := 0, locals := 67 }) (va_Pc [.ref (ad 0), .int x1] (PW shX 67 D cc A ad rs μ)) (va_Qi K (PW shX 67 D cc A ad rs) A) 0 0 A := by
  refine Met.ofW (cc := cX5_resolved) (maxL := 3) (ret := (some .int)) (by decide) rfl ?_
  intro p e s m args below meth c s₁ BB hml hv
  obtain ⟨rfl, hP, hK, hD, hN⟩ := hv
  have hx := BB.exec
  have hb := BB.bytes
  have hr := BB.returns
  have hts := atoms_spec (ws := wsX5_resolved) BB.pre
  have hown : s.vm.findClass RX5 = some m.cls := findClass_of_methodNamed BB.named
  have hlocks := BB.notSynchronized
  have hi_X5 : ∀ w ∈ u_ws RX5 TX5 12, w ∈ wsX5_resolved := by decide +kernel
  have hw0 := hts (.fieldLink RX5 45 "FeatureClashes" "resolvedOrder" "[I") (by decide +kernel)
  have hS : va_S A s.heap s.heap [] := va_S.rf
  have hl := lv_entry ([.ref (ad 0), .int x1]) (n := 3) (Nat.le_of_ble_eq_true rfl)
  rw [lg_entry_eq]
  generalize (lg_sl ([.ref (ad 0), .int x1]) ++ List.replicate (3 - (lg_sl ([.ref (ad 0), .int x1])).length) Slot.unset).toArray = ls at hl ⊢
  have hl : lv_has ls 3 [(0, .ref (ad 0)), (1, .int x1)] := hl
  unfold f_X5_resolved at h
  refine lv_iload_n hx hb dX5_resolved_0 rfl (lv_at hl 1 rfl) ?_
  refine lv_if_ge (tgt := 6) hx hb dX5_resolved_1 (by decide) (fun c1 => ?_) (fun c1 => ?_)
  · have h := h.1 c1
    refine lv_aload_n hx hb dX5_resolved_6 rfl (lv_at hl 0 rfl) ?_
    refine zc_i (zc_runV (As := []) (rest := []) ⟨hx, hb, hml, hown, hts⟩ (c_X5_findResolvedOrder l D cc A ad rs  μ _ h) (cwV 0 hts gX5_resolved_X5_findResolvedOrder rfl rfl rfl (by decide +kernel) ⟨Nat.le_of_ble_eq_true rfl, Nat.le_of_ble_eq_true rfl⟩) kX_0 rfl hK hN hP hD rfl hl.1 rfl (Nat.le_of_ble_eq_true rfl) dX5_resolved_7 ⟨Nat.zero_le _, Nat.zero_le _⟩) hS (fun r2 μ3 H locs h hP hD hS => ?_)
    refine lv_istore_n (lv' := [(2, .int r2), (0, .ref (ad 0)), (1, .int x1)]) hx hb dX5_resolved_10 rfl hl (by decide) rfl (fun ls hl => ?_)
    refine lv_iload_n hx hb dX5_resolved_11 rfl (lv_at hl 2 rfl) ?_
    refine lv_iload_n hx hb dX5_resolved_12 rfl (lv_at hl 0 rfl) ?_
    refine lv_icmp_ge (tgt := 25) hx hb dX5_resolved_13 (by decide) (fun c4 => ?_) (fun c4 => ?_)
    · have h := h.1 c4
      refine lv_bipush (v := (-5)) hx hb dX5_resolved_25 (by decide) ?_
      exact W.iret (v := (-5)) hx hb hr (fun t ht hW => ⟨⟨(-5), μ3, rfl, h, PW.to hK hN hP hD t ht hW⟩, hS.F ht⟩) hS.2.2 dX5_resolved_27
    · have h := h.2 c4
      refine lv_aload_n hx hb dX5_resolved_16 rfl (lv_at hl 1 rfl) ?_
      refine zw_get (C := RX5) (T := TX5) (M := 12) (v := .ref (ad 39)) hx hb hts hi_X5 hown hK hP kX_0 rfl 8 (by decide) hw0 rfl dX5_resolved_17 ?_
      refine lv_iload_n hx hb dX5_resolved_20 rfl (lv_at hl 2 rfl) ?_
      obtain ⟨hi5, h⟩ := h
      refine zw_iald hx hb hK hP kX_39 hi5 dX5_resolved_21 ?_
      refine lv_goto (tgt := 27) hx hb dX5_resolved_22 (by decide) ?_
      exact W.iret (v := μ3.1 39 (x1 : Int32).toNatClampNeg) hx hb hr (fun t ht hW => ⟨⟨μ3.1 39 (x1 : Int32).toNatClampNeg, μ3, rfl, h, PW.to hK hN hP hD t ht hW⟩, hS.F ht⟩) hS.2.2 dX5_resolved_27
  · have h := h.2 c1
    refine lv_iconst (v := (-1)) hx hb dX5_resolved_4 (by decide) ?_
    exact W.iret (v := (-1)) hx hb hr (fun t ht hW => ⟨⟨(-1), μ, rfl, h, PW.to hK hN hP hD t ht hW⟩, hS.F ht⟩) hS.2.2 dX5_resolved_5
set_option maxHeartbeats 4000000 in
set_option maxRecDepth 100000 in
theorem c_X5_isOpenPair (l : Launch) (D : va_G) (cc : Nat → ClassId) (A : Nat → Prop) (ad : Nat → Nat) (rs : va_W) (x1 : Int32) (x2 : Int32) (μ : Mem) (K : Int32 → Mem → Prop) (h : f_X5_isOpenPair x1 x2 μ K) : Met l yX5_isOpenPair wsX5_isOpenPair ({ frames := 4, cells := 0, slots := 0, locals := 90 }) (va_Pc [.ref (ad 0), .int x1, .int x2] (PW shX 67 D cc A ad rs μ)) (va_Qi K (PW shX 67 D cc A ad rs) A) 0 0 A := by
  refine Met.ofW (cc := cX5_isOpenPair) (maxL := 3) (ret := (some .boolean)) (by decide) rfl ?_
  intro p e s m args below meth c s₁ BB hml hv
  obtain ⟨rfl, hP, hK, hD, hN⟩ := hv
  have hx := BB.exec
  have hb := BB.bytes
  have hr := BB.returns
  have hts := atoms_spec (ws := wsX5_isOpenPair) BB.pre
  have hown : s.vm.findClass RX5 = some m.cls := findClass_of_methodNamed BB.named
  have hlocks := BB.notSynchronized
  have hi_X5 : ∀ w ∈ u_ws RX5 TX5 12, w ∈ wsX5_isOpenPair := by decide +kernel
  have hw0 := hts (.fieldLink RX5 12 "FeatureClashes" "setup" "LFeatureClashes$Setup;") (by decide +kernel)
  have hS : va_S A s.heap s.heap [] := va_S.rf
  have hl := lv_entry ([.ref (ad 0), .int x1, .int x2]) (n := 3) (Nat.le_of_ble_eq_true rfl)
  rw [lg_entry_eq]
  generalize (lg_sl ([.ref (ad 0), .int x1, .int x2]) ++ List.replicate (3 - (lg_sl ([.ref (ad 0), .int x1, .int x2])).length) Slot.unset).toArray = ls at hl ⊢
  have hl : lv_has ls 3 [(0, .ref (ad 0)), (1, .int x1), (2, .int x2)] := hl
  unfold f_X5_isOpenPair at h
  refine lv_aload_n hx hb dX5_isOpenPair_0 rfl (lv_at hl 0 rfl) ?_
  refine zw_get (C := RX5) (T := TX5) (M := 12) (v := .ref (ad 1)) hx hb hts hi_X5 hown hK hP kX_0 rfl 0 (by decide) hw0 rfl dX5_isOpenPair_1 ?_
  refine lv_iload_n hx hb dX5_isOpenPair_4 rfl (lv_at hl 1 rfl) ?_
  refine zc_i (zc_runV (As := [.int x1]) (rest := []) ⟨hx, hb, hml, hown, hts⟩ (c_X2_isOn l D cc A ad rs 1 sS1 x1 μ _ h) (cwV 1 hts gX5_isOpenPair_X2_isOn rfl rfl rfl (by decide +kernel) ⟨Nat.le_of_ble_eq_true rfl, Nat.le_of_ble_eq_true rfl⟩) (oS sS1) rfl hK hN hP hD rfl hl.1 rfl (Nat.le_of_ble_eq_true rfl) dX5_isOpenPair_5 ⟨Nat.zero_le _, Nat.zero_le _⟩) hS (fun r1 μ2 H locs h hP hD hS => ?_)
  refine lv_if_eq (tgt := 59) hx hb dX5_isOpenPair_8 (by decide) (fun c3 => ?_) (fun c3 => ?_)
  · have h := h.1 c3
    refine lv_iconst (v := 0) hx hb dX5_isOpenPair_59 (by decide) ?_
    exact W.zret (ty := .boolean) (v := 0) hx hb hr rfl (fun t ht hW => ⟨⟨0, μ2, rfl, h, PW.to hK hN hP hD t ht hW⟩, hS.F ht⟩) hS.2.2 dX5_isOpenPair_60
  · have h := h.2 c3
    refine lv_aload_n hx hb dX5_isOpenPair_11 rfl (lv_at hl 0 rfl) ?_
    refine zw_get (C := RX5) (T := TX5) (M := 12) (v := .ref (ad 1)) hx hb hts hi_X5 hown hK hP kX_0 rfl 0 (by decide) hw0 rfl dX5_isOpenPair_12 ?_
    refine lv_iload_n hx hb dX5_isOpenPair_15 rfl (lv_at hl 2 rfl) ?_
    refine zc_i (zc_runV (As := [.int x2]) (rest := []) ⟨hx, hb, hml, hown, hts⟩ (c_X2_isOn l D cc A ad rs 1 sS1 x2 μ2 _ h) (cwV 1 hts gX5_isOpenPair_X2_isOn rfl rfl rfl (by decide +kernel) ⟨Nat.le_of_ble_eq_true rfl, Nat.le_of_ble_eq_true rfl⟩) (oS sS1) rfl hK hN hP hD rfl hl.1 rfl (Nat.le_of_ble_eq_true rfl) dX5_isOpenPair_16 ⟨Nat.zero_le _, Nat.zero_le _⟩) hS (fun r4 μ5 H locs h hP hD hS => ?_)
    refine lv_if_eq (tgt := 59) hx hb dX5_isOpenPair_19 (by decide) (fun c6 => ?_) (fun c6 => ?_)
    · have h := h.1 c6
      refine lv_iconst (v := 0) hx hb dX5_isOpenPair_59 (by decide) ?_
      exact W.zret (ty := .boolean) (v := 0) hx hb hr rfl (fun t ht hW => ⟨⟨0, μ5, rfl, h, PW.to hK hN hP hD t ht hW⟩, hS.F ht⟩) hS.2.2 dX5_isOpenPair_60
    · have h := h.2 c6
      refine lv_aload_n hx hb dX5_isOpenPair_22 rfl (lv_at hl 0 rfl) ?_
      refine zw_get (C := RX5) (T := TX5) (M := 12) (v := .ref (ad 1)) hx hb hts hi_X5 hown hK hP kX_0 rfl 0 (by decide) hw0 rfl dX5_isOpenPair_23 ?_
      refine lv_iload_n hx hb dX5_isOpenPair_26 rfl (lv_at hl 1 rfl) ?_
      refine lv_iload_n hx hb dX5_isOpenPair_27 rfl (lv_at hl 2 rfl) ?_
      refine zc_i (zc_runV (As := [.int x1, .int x2]) (rest := []) ⟨hx, hb, hml, hown, hts⟩ (c_X2_stands l D cc A ad rs 1 sS1 x1 x2 μ5 _ h) (cwV 2 hts gX5_isOpenPair_X2_stands rfl rfl rfl (by decide +kernel) ⟨Nat.le_of_ble_eq_true rfl, Nat.le_of_ble_eq_true rfl⟩) (oS sS1) rfl hK hN hP hD rfl hl.1 rfl (Nat.le_of_ble_eq_true rfl) dX5_isOpenPair_28 ⟨Nat.zero_le _, Nat.zero_le _⟩) hS (fun r7 μ8 H locs h hP hD hS => ?_)
      refine lv_if_ne (tgt := 59) hx hb dX5_isOpenPair_31 (by decide) (fun c9 => ?_) (fun c9 => ?_)
      · have h := h.1 c9
        refine lv_iconst (v := 0) hx hb dX5_isOpenPair_59 (by decide) ?_
        exact W.zret (ty := .boolean) (v := 0) hx hb hr rfl (fun t ht hW => ⟨⟨0, μ8, rfl, h, PW.to hK hN hP hD t ht hW⟩, hS.F ht⟩) hS.2.2 dX5_isOpenPair_60
      · have h := h.2 c9
        refine lv_aload_n hx hb dX5_isOpenPair_34 rfl (lv_at hl 0 rfl) ?_
        refine zw_get (C := RX5) (T := TX5) (M := 12) (v := .ref (ad 1)) hx hb hts hi_X5 hown hK hP kX_0 rfl 0 (by decide) hw0 rfl dX5_isOpenPair_35 ?_
        refine lv_iload_n hx hb dX5_isOpenPair_38 rfl (lv_at hl 2 rfl) ?_
        refine lv_iload_n hx hb dX5_isOpenPair_39 rfl (lv_at hl 1 rfl) ?_
        refine zc_i (zc_runV (As := [.int x2, .int x1]) (rest := []) ⟨hx, hb, hml, hown, hts⟩ (c_X2_stands l D cc A ad rs 1 sS1 x2 x1 μ8 _ h) (cwV 2 hts gX5_isOpenPair_X2_stands rfl rfl rfl (by decide +kernel) ⟨Nat.le_of_ble_eq_true rfl, Nat.le_of_ble_eq_true rfl⟩) (oS sS1) rfl hK hN hP hD rfl hl.1 rfl (Nat.le_of_ble_eq_true rfl) dX5_isOpenPair_40 ⟨Nat.zero_le _, Nat.zero_le _⟩) hS (fun r10 μ11 H locs h hP hD hS => ?_)
        refine lv_if_ne (tgt := 59) hx hb dX5_isOpenPair_43 (by decide) (fun c12 => ?_) (fun c12 => ?_)
        · have h := h.1 c12
          refine lv_iconst (v := 0) hx hb dX5_isOpenPair_59 (by decide) ?_
          exact W.zret (ty := .boolean) (v := 0) hx hb hr rfl (fun t ht hW => ⟨⟨0, μ11, rfl, h, PW.to hK hN hP hD t ht hW⟩, hS.F ht⟩) hS.2.2 dX5_isOpenPair_60
        · have h := h.2 c12
          refine lv_aload_n hx hb dX5_isOpenPair_46 rfl (lv_at hl 0 rfl) ?_
          refine lv_iload_n hx hb dX5_isOpenPair_47 rfl (lv_at hl 1 rfl) ?_
          refine lv_iload_n hx hb dX5_isOpenPair_48 rfl (lv_at hl 2 rfl) ?_
          refine zc_i (zc_runV (As := [.int x1, .int x2]) (rest := []) ⟨hx, hb, hml, hown, hts⟩ (c_X5_findWitness l D cc A ad rs x1 x2 μ11 _ h) (cwV 2 hts gX5_isOpenPair_X5_findWitness rfl rfl rfl (by decide +kernel) ⟨Nat.le_of_ble_eq_true rfl, Nat.le_of_ble_eq_true rfl⟩) kX_0 rfl hK hN hP hD rfl hl.1 rfl (Nat.le_of_ble_eq_true rfl) dX5_isOpenPair_49 ⟨Nat.zero_le _, Nat.zero_le _⟩) hS (fun r13 μ14 H locs h hP hD hS => ?_)
          refine lv_if_eq (tgt := 59) hx hb dX5_isOpenPair_52 (by decide) (fun c15 => ?_) (fun c15 => ?_)
          · have h := h.1 c15
            refine lv_iconst (v := 0) hx hb dX5_isOpenPair_59 (by decide) ?_
            exact W.zret (ty := .boolean) (v := 0) hx hb hr rfl (fun t ht hW => ⟨⟨0, μ14, rfl, h, PW.to hK hN hP hD t ht hW⟩, hS.F ht⟩) hS.2.2 dX5_isOpenPair_60
          · have h := h.2 c15
            refine lv_iconst (v := 1) hx hb dX5_isOpenPair_55 (by decide) ?_
            refine lv_goto (tgt := 60) hx hb dX5_isOpenPair_56 (by decide) ?_
            exact W.zret (ty := .boolean) (v := 1) hx hb hr rfl (fun t ht hW => ⟨⟨1, μ14, rfl, h, PW.to hK hN hP hD t ht hW⟩, hS.F ht⟩) hS.2.2 dX5_isOpenPair_60
set_option maxHeartbeats 4000000 in
set_option maxRecDepth 100000 in
theorem c_X5_open (l : Launch) (D : va_G) (cc : Nat → ClassId) (A : Nat → Prop) (ad : Nat → Nat) (rs : va_W)  (μ : Mem) (K : Int32 → Mem → Prop) (h : f_X5_open  μ K) : Met l yX5_open wsX5_open ({ frames := 5, cells := 0, slots := 0, locals := 112 }) (va_Pc [.ref (ad 0)] (PW shX 67 D cc A ad rs μ)) (va_Qi K (PW shX 67 D cc A ad rs) A) 0 0 A := by
  refine Met.ofW (cc := cX5_open) (maxL := 4) (ret := (some .int)) (by decide) rfl ?_
  intro p e s m args below meth c s₁ BB hml hv
  obtain ⟨rfl, hP, hK, hD, hN⟩ := hv
  have hx := BB.exec
  have hb := BB.bytes
  have hr := BB.returns
  have hts := atoms_spec (ws := wsX5_open) BB.pre
  have hown : s.vm.findClass RX5 = some m.cls := findClass_of_methodNamed BB.named
  have hlocks := BB.notSynchronized
  have hi_X5 : ∀ w ∈ u_ws RX5 TX5 12, w ∈ wsX5_open := by decide +kernel
  have hi_X2 : ∀ w ∈ u_ws RX2 TX2 7, w ∈ wsX5_open := by decide +kernel
  have hw0 := hts (.fieldLink RX5 12 "FeatureClashes" "setup" "LFeatureClashes$Setup;") (by decide +kernel)
  have hw1 := hts (.fieldLink RX5 99 "FeatureClashes$Setup" "featureCount" "I") (by decide +kernel)
  have hS : va_S A s.heap s.heap [] := va_S.rf
  have hl := lv_entry ([.ref (ad 0)]) (n := 4) (Nat.le_of_ble_eq_true rfl)
  rw [lg_entry_eq]
  generalize (lg_sl ([.ref (ad 0)]) ++ List.replicate (4 - (lg_sl ([.ref (ad 0)])).length) Slot.unset).toArray = ls at hl ⊢
  have hl : lv_has ls 4 [(0, .ref (ad 0))] := hl
  unfold f_X5_open at h
  refine (fun h => ?main) (h (fun b1 b2 μ => ∀ (H1 : Heap) (locs : List Loc) (ls : Array Slot), va_P D vwCl (wW shX 67 cc ad μ ++ rs) H1 → va_D A (wW shX 67 cc ad μ ++ rs) → va_S A s.heap H1 locs → lv_has ls 4 [(0, .ref (ad 0)), (1, .int b1), (2, .int b2)] → W p l e (headSpec wsX5_open ({ frames := 5, cells := 0, slots := 0, locals := 112 })).room s m ([.ref (ad 0)] : List Value).toArray below meth c H1 locs 0 0 (MQ below (va_Qi K (PW shX 67 D cc A ad rs) A) ([.ref (ad 0)] : List Value).toArray s 0 0 A) (F0 m 4 ls ([]))) (fun b1 b2 b3 μ => ∀ (H1 : Heap) (locs : List Loc) (ls : Array Slot), va_P D vwCl (wW shX 67 cc ad μ ++ rs) H1 → va_D A (wW shX 67 cc ad μ ++ rs) → va_S A s.heap H1 locs → lv_has ls 4 [(0, .ref (ad 0)), (1, .int b1), (2, .int b2), (3, .int b3)] → W p l e (headSpec wsX5_open ({ frames := 5, cells := 0, slots := 0, locals := 112 })).room s m ([.ref (ad 0)] : List Value).toArray below meth c H1 locs 0 0 (MQ below (va_Qi K (PW shX 67 D cc A ad rs) A) ([.ref (ad 0)] : List Value).toArray s 0 0 A) (F0 m 19 ls ([]))) (fun b1 b2 b3 μ => ∀ (H1 : Heap) (locs : List Loc) (ls : Array Slot), va_P D vwCl (wW shX 67 cc ad μ ++ rs) H1 → va_D A (wW shX 67 cc ad μ ++ rs) → va_S A s.heap H1 locs → lv_has ls 4 [(0, .ref (ad 0)), (1, .int b1), (2, .int b2), (3, .int b3)] → W p l e (headSpec wsX5_open ({ frames := 5, cells := 0, slots := 0, locals := 112 })).room s m ([.ref (ad 0)] : List Value).toArray below meth c H1 locs 0 0 (MQ below (va_Qi K (PW shX 67 D cc A ad rs) A) ([.ref (ad 0)] : List Value).toArray s 0 0 A) (F0 m 42 ls ([]))) ?b4 ?b19 ?b42)
  case main =>
      refine lv_iconst (v := 0) hx hb dX5_open_0 (by decide) ?_
      refine lv_istore_n (lv' := [(1, .int 0), (0, .ref (ad 0))]) hx hb dX5_open_1 rfl hl (by decide) rfl (fun ls hl => ?_)
      refine lv_iconst (v := 0) hx hb dX5_open_2 (by decide) ?_
      refine lv_istore_n (lv' := [(2, .int 0), (1, .int 0), (0, .ref (ad 0))]) hx hb dX5_open_3 rfl hl (by decide) rfl (fun ls hl => ?_)
      exact h _ _ _ hP hD hS (lv_sub hl [2, 1, 0] rfl)
  case b4 =>
    intro b1 b2 μ h H locs ls hP hD hS hl
    refine lv_iload_n hx hb dX5_open_4 rfl (lv_at hl 2 rfl) ?_
    refine lv_aload_n hx hb dX5_open_5 rfl (lv_at hl 0 rfl) ?_
    refine zw_get (C := RX5) (T := TX5) (M := 12) (v := .ref (ad 1)) hx hb hts hi_X5 hown hK hP kX_0 rfl 0 (by decide) hw0 rfl dX5_open_6 ?_
    refine zw_get (C := RX2) (T := TX2) (M := 7) (v := .int (μ.1 1 2)) hx hb hts hi_X2 hown hK hP (oS sS1) rfl 2 (by decide) hw1 rfl dX5_open_9 ?_
    refine lv_icmp_ge (tgt := 54) hx hb dX5_open_12 (by decide) (fun c1 => ?_) (fun c1 => ?_)
    · have h := h.1 c1
      refine lv_iload_n hx hb dX5_open_54 rfl (lv_at hl 1 rfl) ?_
      exact W.iret (v := b1) hx hb hr (fun t ht hW => ⟨⟨b1, μ, rfl, h, PW.to hK hN hP hD t ht hW⟩, hS.F ht⟩) hS.2.2 dX5_open_55
    · have h := h.2 c1
      refine lv_iload_n hx hb dX5_open_15 rfl (lv_at hl 2 rfl) ?_
      refine lv_iconst (v := 1) hx hb dX5_open_16 (by decide) ?_
      refine lv_iadd hx hb dX5_open_17 ?_
      refine lv_topi (fun y2 ey2 => ?_)
      have h := h y2 ey2
      refine lv_istore_n (lv' := [(3, .int y2), (0, .ref (ad 0)), (1, .int b1), (2, .int b2)]) hx hb dX5_open_18 rfl hl (by decide) rfl (fun ls hl => ?_)
      exact h _ _ _ hP hD hS (lv_sub hl [1, 2, 3, 0] rfl)
  case b19 =>
    intro b1 b2 b3 μ h H locs ls hP hD hS hl
    refine lv_iload_n hx hb dX5_open_19 rfl (lv_at hl 3 rfl) ?_
    refine lv_aload_n hx hb dX5_open_20 rfl (lv_at hl 0 rfl) ?_
    refine zw_get (C := RX5) (T := TX5) (M := 12) (v := .ref (ad 1)) hx hb hts hi_X5 hown hK hP kX_0 rfl 0 (by decide) hw0 rfl dX5_open_21 ?_
    refine zw_get (C := RX2) (T := TX2) (M := 7) (v := .int (μ.1 1 2)) hx hb hts hi_X2 hown hK hP (oS sS1) rfl 2 (by decide) hw1 rfl dX5_open_24 ?_
    refine lv_icmp_ge (tgt := 48) hx hb dX5_open_27 (by decide) (fun c3 => ?_) (fun c3 => ?_)
    · have h := h.1 c3
      obtain ⟨y4, ey4⟩ : ∃ y : Int32, y = b2 + 1 := ⟨_, rfl⟩
      have h := h y4 ey4
      refine lv_iinc (v := y4) (lv' := [(2, .int y4), (0, .ref (ad 0)), (1, .int b1), (3, .int b3)]) hx hb dX5_open_48 hl (k := 2) rfl (by rw [ey4]; rfl) (by decide) rfl (fun ls hl => ?_)
      refine lv_goto (tgt := 4) hx hb dX5_open_51 (by decide) ?_
      exact h _ _ _ hP hD hS (lv_sub hl [1, 2, 0] rfl)
    · have h := h.2 c3
      refine lv_aload_n hx hb dX5_open_30 rfl (lv_at hl 0 rfl) ?_
      refine lv_iload_n hx hb dX5_open_31 rfl (lv_at hl 2 rfl) ?_
      refine lv_iload_n hx hb dX5_open_32 rfl (lv_at hl 3 rfl) ?_
      refine zc_i (zc_runV (As := [.int b2, .int b3]) (rest := []) ⟨hx, hb, hml, hown, hts⟩ (c_X5_isOpenPair l D cc A ad rs b2 b3 μ _ h) (cwV 2 hts gX5_open_X5_isOpenPair rfl rfl rfl (by decide +kernel) ⟨Nat.le_of_ble_eq_true rfl, Nat.le_of_ble_eq_true rfl⟩) kX_0 rfl hK hN hP hD rfl hl.1 rfl (Nat.le_of_ble_eq_true rfl) dX5_open_33 ⟨Nat.zero_le _, Nat.zero_le _⟩) hS (fun r5 μ6 H locs h hP hD hS => ?_)
      refine lv_if_eq (tgt := 42) hx hb dX5_open_36 (by decide) (fun c7 => ?_) (fun c7 => ?_)
      · have h := h.1 c7
        exact h _ _ _ hP hD hS (lv_sub hl [0, 1, 2, 3] rfl)
      · have h := h.2 c7
        obtain ⟨y8, ey8⟩ : ∃ y : Int32, y = b1 + 1 := ⟨_, rfl⟩
        have h := h y8 ey8
        refine lv_iinc (v := y8) (lv' := [(1, .int y8), (0, .ref (ad 0)), (2, .int b2), (3, .int b3)]) hx hb dX5_open_39 hl (k := 1) rfl (by rw [ey8]; rfl) (by decide) rfl (fun ls hl => ?_)
        exact h _ _ _ hP hD hS (lv_sub hl [1, 0, 2, 3] rfl)
  case b42 =>
    intro b1 b2 b3 μ h H locs ls hP hD hS hl
    obtain ⟨y9, ey9⟩ : ∃ y : Int32, y = b3 + 1 := ⟨_, rfl⟩
    have h := h y9 ey9
    refine lv_iinc (v := y9) (lv' := [(3, .int y9), (0, .ref (ad 0)), (1, .int b1), (2, .int b2)]) hx hb dX5_open_42 hl (k := 3) rfl (by rw [ey9]; rfl) (by decide) rfl (fun ls hl => ?_)
    refine lv_goto (tgt := 19) hx hb dX5_open_45 (by decide) ?_
    exact h _ _ _ hP hD hS (lv_sub hl [1, 2, 3, 0] rfl)
set_option maxHeartbeats 4000000 in
set_option maxRecDepth 100000 in
theorem c_X5_isResolved (l : Launch) (D : va_G) (cc : Nat → ClassId) (A : Nat → Prop) (ad : Nat → Nat) (rs : va_W)  (μ : Mem) (K : Int32 → Mem → Prop) (h : f_X5_isResolved  μ K) : Met l yX5_isResolved wsX5_isResolved ({ frames := 14, cells := 0, slots := 0, locals := 358 }) (va_Pc [.ref (ad 0)] (PW shX 67 D cc A ad rs μ)) (va_Qi K (PW shX 67 D cc A ad rs) A) 0 0 A := by
  refine Met.ofW (cc := cX5_isResolved) (maxL := 1) (ret := (some .int)) (by decide) rfl ?_
  intro p e s m args below meth c s₁ BB hml hv
  obtain ⟨rfl, hP, hK, hD, hN⟩ := hv
  have hx := BB.exec
  have hb := BB.bytes
  have hr := BB.returns
  have hts := atoms_spec (ws := wsX5_isResolved) BB.pre
  have hown : s.vm.findClass RX5 = some m.cls := findClass_of_methodNamed BB.named
  have hlocks := BB.notSynchronized
  have hi_X5 : ∀ w ∈ u_ws RX5 TX5 12, w ∈ wsX5_isResolved := by decide +kernel
  have hw0 := hts (.fieldLink RX5 61 "FeatureClashes" "outcomes" "LFeatureClashes$Outcomes;") (by decide +kernel)
  have hw1 := hts (.fieldLink RX5 12 "FeatureClashes" "setup" "LFeatureClashes$Setup;") (by decide +kernel)
  have hS : va_S A s.heap s.heap [] := va_S.rf
  have hl := lv_entry ([.ref (ad 0)]) (n := 1) (Nat.le_of_ble_eq_true rfl)
  rw [lg_entry_eq]
  generalize (lg_sl ([.ref (ad 0)]) ++ List.replicate (1 - (lg_sl ([.ref (ad 0)])).length) Slot.unset).toArray = ls at hl ⊢
  have hl : lv_has ls 1 [(0, .ref (ad 0))] := hl
  unfold f_X5_isResolved at h
  refine lv_aload_n hx hb dX5_isResolved_0 rfl (lv_at hl 0 rfl) ?_
  refine zw_get (C := RX5) (T := TX5) (M := 12) (v := .ref (ad 49)) hx hb hts hi_X5 hown hK hP kX_0 rfl 11 (by decide) hw0 rfl dX5_isResolved_1 ?_
  refine lv_aload_n hx hb dX5_isResolved_4 rfl (lv_at hl 0 rfl) ?_
  refine zw_get (C := RX5) (T := TX5) (M := 12) (v := .ref (ad 1)) hx hb hts hi_X5 hown hK hP kX_0 rfl 0 (by decide) hw1 rfl dX5_isResolved_5 ?_
  refine lv_iconst (v := 1) hx hb dX5_isResolved_8 (by decide) ?_
  refine lv_iconst (v := 2) hx hb dX5_isResolved_9 (by decide) ?_
  refine zc_i (zc_runV (As := [.ref (ad 1), .int 1, .int 2]) (rest := []) ⟨hx, hb, hml, hown, hts⟩ (c_X1_countKinds l D cc A ad rs 1 sS1 1 2 μ _ h) (cwV 3 hts gX5_isResolved_X1_countKinds rfl rfl rfl (by decide +kernel) ⟨Nat.le_of_ble_eq_true rfl, Nat.le_of_ble_eq_true rfl⟩) kX_49 rfl hK hN hP hD rfl hl.1 rfl (Nat.le_of_ble_eq_true rfl) dX5_isResolved_10 ⟨Nat.zero_le _, Nat.zero_le _⟩) hS (fun r1 μ2 H locs h hP hD hS => ?_)
  refine lv_iconst (v := 2) hx hb dX5_isResolved_13 (by decide) ?_
  refine lv_icmp_ge (tgt := 21) hx hb dX5_isResolved_14 (by decide) (fun c3 => ?_) (fun c3 => ?_)
  · have h := h.1 c3
    refine lv_iconst (v := 0) hx hb dX5_isResolved_21 (by decide) ?_
    exact W.iret (v := 0) hx hb hr (fun t ht hW => ⟨⟨0, μ2, rfl, h, PW.to hK hN hP hD t ht hW⟩, hS.F ht⟩) hS.2.2 dX5_isResolved_22
  · have h := h.2 c3
    refine lv_iconst (v := 1) hx hb dX5_isResolved_17 (by decide) ?_
    refine lv_goto (tgt := 22) hx hb dX5_isResolved_18 (by decide) ?_
    exact W.iret (v := 1) hx hb hr (fun t ht hW => ⟨⟨1, μ2, rfl, h, PW.to hK hN hP hD t ht hW⟩, hS.F ht⟩) hS.2.2 dX5_isResolved_22
set_option maxHeartbeats 4000000 in
set_option maxRecDepth 100000 in
theorem c_X5_resolve (l : Launch) (D : va_G) (cc : Nat → ClassId) (A : Nat → Prop) (ad : Nat → Nat) (rs : va_W)  (μ : Mem) (K : Int32 → Mem → Prop) (h : f_X5_resolve  μ K) : Met l yX5_resolve wsX5_resolve ({ frames := 5, cells := 0, slots := 0, locals := 112 }) (va_Pc [.ref (ad 0)] (PW shX 67 D cc A ad rs μ)) (va_Qi K (PW shX 67 D cc A ad rs) A) 0 0 A := by
  refine Met.ofW (cc := cX5_resolve) (maxL := 4) (ret := (some .int)) (by decide) rfl ?_
  intro p e s m args below meth c s₁ BB hml hv
  obtain ⟨rfl, hP, hK, hD, hN⟩ := hv
  have hx := BB.exec
  have hb := BB.bytes
  have hr := BB.returns
  have hts := atoms_spec (ws := wsX5_resolve) BB.pre
  have hown : s.vm.findClass RX5 = some m.cls := findClass_of_methodNamed BB.named
  have hlocks := BB.notSynchronized
  have hi_X5 : ∀ w ∈ u_ws RX5 TX5 12, w ∈ wsX5_resolve := by decide +kernel
  have hi_X2 : ∀ w ∈ u_ws RX2 TX2 7, w ∈ wsX5_resolve := by decide +kernel
  have hw0 := hts (.fieldLink RX5 12 "FeatureClashes" "setup" "LFeatureClashes$Setup;") (by decide +kernel)
  have hw1 := hts (.fieldLink RX5 99 "FeatureClashes$Setup" "featureCount" "I") (by decide +kernel)
  have hS : va_S A s.heap s.heap [] := va_S.rf
  have hl := lv_entry ([.ref (ad 0)]) (n := 4) (Nat.le_of_ble_eq_true rfl)
  rw [lg_entry_eq]
  generalize (lg_sl ([.ref (ad 0)]) ++ List.replicate (4 - (lg_sl ([.ref (ad 0)])).length) Slot.unset).toArray = ls at hl ⊢
  have hl : lv_has ls 4 [(0, .ref (ad 0))] := hl
  unfold f_X5_resolve at h
  refine (fun h => ?main) (h (fun b1 b2 μ => ∀ (H1 : Heap) (locs : List Loc) (ls : Array Slot), va_P D vwCl (wW shX 67 cc ad μ ++ rs) H1 → va_D A (wW shX 67 cc ad μ ++ rs) → va_S A s.heap H1 locs → lv_has ls 4 [(0, .ref (ad 0)), (1, .int b1), (2, .int b2)] → W p l e (headSpec wsX5_resolve ({ frames := 5, cells := 0, slots := 0, locals := 112 })).room s m ([.ref (ad 0)] : List Value).toArray below meth c H1 locs 0 0 (MQ below (va_Qi K (PW shX 67 D cc A ad rs) A) ([.ref (ad 0)] : List Value).toArray s 0 0 A) (F0 m 4 ls ([]))) (fun b1 b2 b3 μ => ∀ (H1 : Heap) (locs : List Loc) (ls : Array Slot), va_P D vwCl (wW shX 67 cc ad μ ++ rs) H1 → va_D A (wW shX 67 cc ad μ ++ rs) → va_S A s.heap H1 locs → lv_has ls 4 [(0, .ref (ad 0)), (1, .int b1), (2, .int b2), (3, .int b3)] → W p l e (headSpec wsX5_resolve ({ frames := 5, cells := 0, slots := 0, locals := 112 })).room s m ([.ref (ad 0)] : List Value).toArray below meth c H1 locs 0 0 (MQ below (va_Qi K (PW shX 67 D cc A ad rs) A) ([.ref (ad 0)] : List Value).toArray s 0 0 A) (F0 m 19 ls ([]))) (fun b1 b2 b3 μ => ∀ (H1 : Heap) (locs : List Loc) (ls : Array Slot), va_P D vwCl (wW shX 67 cc ad μ ++ rs) H1 → va_D A (wW shX 67 cc ad μ ++ rs) → va_S A s.heap H1 locs → lv_has ls 4 [(0, .ref (ad 0)), (1, .int b1), (2, .int b2), (3, .int b3)] → W p l e (headSpec wsX5_resolve ({ frames := 5, cells := 0, slots := 0, locals := 112 })).room s m ([.ref (ad 0)] : List Value).toArray below meth c H1 locs 0 0 (MQ below (va_Qi K (PW shX 67 D cc A ad rs) A) ([.ref (ad 0)] : List Value).toArray s 0 0 A) (F0 m 51 ls ([]))) ?b4 ?b19 ?b51)
  case main =>
      refine lv_iconst (v := 0) hx hb dX5_resolve_0 (by decide) ?_
      refine lv_istore_n (lv' := [(1, .int 0), (0, .ref (ad 0))]) hx hb dX5_resolve_1 rfl hl (by decide) rfl (fun ls hl => ?_)
      refine lv_iconst (v := 0) hx hb dX5_resolve_2 (by decide) ?_
      refine lv_istore_n (lv' := [(2, .int 0), (1, .int 0), (0, .ref (ad 0))]) hx hb dX5_resolve_3 rfl hl (by decide) rfl (fun ls hl => ?_)
      exact h _ _ _ hP hD hS (lv_sub hl [2, 1, 0] rfl)
  case b4 =>
    intro b1 b2 μ h H locs ls hP hD hS hl
    refine lv_iload_n hx hb dX5_resolve_4 rfl (lv_at hl 2 rfl) ?_
    refine lv_aload_n hx hb dX5_resolve_5 rfl (lv_at hl 0 rfl) ?_
    refine zw_get (C := RX5) (T := TX5) (M := 12) (v := .ref (ad 1)) hx hb hts hi_X5 hown hK hP kX_0 rfl 0 (by decide) hw0 rfl dX5_resolve_6 ?_
    refine zw_get (C := RX2) (T := TX2) (M := 7) (v := .int (μ.1 1 2)) hx hb hts hi_X2 hown hK hP (oS sS1) rfl 2 (by decide) hw1 rfl dX5_resolve_9 ?_
    refine lv_icmp_ge (tgt := 63) hx hb dX5_resolve_12 (by decide) (fun c1 => ?_) (fun c1 => ?_)
    · have h := h.1 c1
      refine lv_iload_n hx hb dX5_resolve_63 rfl (lv_at hl 1 rfl) ?_
      exact W.iret (v := b1) hx hb hr (fun t ht hW => ⟨⟨b1, μ, rfl, h, PW.to hK hN hP hD t ht hW⟩, hS.F ht⟩) hS.2.2 dX5_resolve_64
    · have h := h.2 c1
      refine lv_iload_n hx hb dX5_resolve_15 rfl (lv_at hl 2 rfl) ?_
      refine lv_iconst (v := 1) hx hb dX5_resolve_16 (by decide) ?_
      refine lv_iadd hx hb dX5_resolve_17 ?_
      refine lv_topi (fun y2 ey2 => ?_)
      have h := h y2 ey2
      refine lv_istore_n (lv' := [(3, .int y2), (0, .ref (ad 0)), (1, .int b1), (2, .int b2)]) hx hb dX5_resolve_18 rfl hl (by decide) rfl (fun ls hl => ?_)
      exact h _ _ _ hP hD hS (lv_sub hl [1, 2, 3, 0] rfl)
  case b19 =>
    intro b1 b2 b3 μ h H locs ls hP hD hS hl
    refine lv_iload_n hx hb dX5_resolve_19 rfl (lv_at hl 3 rfl) ?_
    refine lv_aload_n hx hb dX5_resolve_20 rfl (lv_at hl 0 rfl) ?_
    refine zw_get (C := RX5) (T := TX5) (M := 12) (v := .ref (ad 1)) hx hb hts hi_X5 hown hK hP kX_0 rfl 0 (by decide) hw0 rfl dX5_resolve_21 ?_
    refine zw_get (C := RX2) (T := TX2) (M := 7) (v := .int (μ.1 1 2)) hx hb hts hi_X2 hown hK hP (oS sS1) rfl 2 (by decide) hw1 rfl dX5_resolve_24 ?_
    refine lv_icmp_ge (tgt := 57) hx hb dX5_resolve_27 (by decide) (fun c3 => ?_) (fun c3 => ?_)
    · have h := h.1 c3
      obtain ⟨y4, ey4⟩ : ∃ y : Int32, y = b2 + 1 := ⟨_, rfl⟩
      have h := h y4 ey4
      refine lv_iinc (v := y4) (lv' := [(2, .int y4), (0, .ref (ad 0)), (1, .int b1), (3, .int b3)]) hx hb dX5_resolve_57 hl (k := 2) rfl (by rw [ey4]; rfl) (by decide) rfl (fun ls hl => ?_)
      refine lv_goto (tgt := 4) hx hb dX5_resolve_60 (by decide) ?_
      exact h _ _ _ hP hD hS (lv_sub hl [1, 2, 0] rfl)
    · have h := h.2 c3
      refine lv_aload_n hx hb dX5_resolve_30 rfl (lv_at hl 0 rfl) ?_
      refine lv_iload_n hx hb dX5_resolve_31 rfl (lv_at hl 2 rfl) ?_
      refine lv_iload_n hx hb dX5_resolve_32 rfl (lv_at hl 3 rfl) ?_
      refine zc_i (zc_runV (As := [.int b2, .int b3]) (rest := []) ⟨hx, hb, hml, hown, hts⟩ (c_X5_isOpenPair l D cc A ad rs b2 b3 μ _ h) (cwV 2 hts gX5_resolve_X5_isOpenPair rfl rfl rfl (by decide +kernel) ⟨Nat.le_of_ble_eq_true rfl, Nat.le_of_ble_eq_true rfl⟩) kX_0 rfl hK hN hP hD rfl hl.1 rfl (Nat.le_of_ble_eq_true rfl) dX5_resolve_33 ⟨Nat.zero_le _, Nat.zero_le _⟩) hS (fun r5 μ6 H locs h hP hD hS => ?_)
      refine lv_if_eq (tgt := 51) hx hb dX5_resolve_36 (by decide) (fun c7 => ?_) (fun c7 => ?_)
      · have h := h.1 c7
        exact h _ _ _ hP hD hS (lv_sub hl [0, 1, 2, 3] rfl)
      · have h := h.2 c7
        refine lv_aload_n hx hb dX5_resolve_39 rfl (lv_at hl 0 rfl) ?_
        refine zw_get (C := RX5) (T := TX5) (M := 12) (v := .ref (ad 1)) hx hb hts hi_X5 hown hK hP kX_0 rfl 0 (by decide) hw0 rfl dX5_resolve_40 ?_
        refine lv_iload_n hx hb dX5_resolve_43 rfl (lv_at hl 2 rfl) ?_
        refine lv_iload_n hx hb dX5_resolve_44 rfl (lv_at hl 3 rfl) ?_
        refine zc_v (zc_runV (As := [.int b2, .int b3]) (rest := []) ⟨hx, hb, hml, hown, hts⟩ (c_X2_prefer l D cc A ad rs 1 sS1 b2 b3 μ6 _ h) (cwV 2 hts gX5_resolve_X2_prefer rfl rfl rfl (by decide +kernel) ⟨Nat.le_of_ble_eq_true rfl, Nat.le_of_ble_eq_true rfl⟩) (oS sS1) rfl hK hN hP hD rfl hl.1 rfl (Nat.le_of_ble_eq_true rfl) dX5_resolve_45 ⟨Nat.zero_le _, Nat.zero_le _⟩) hS (fun μ9 H locs h hP hD hS => ?_)
        obtain ⟨y10, ey10⟩ : ∃ y : Int32, y = b1 + 1 := ⟨_, rfl⟩
        have h := h y10 ey10
        refine lv_iinc (v := y10) (lv' := [(1, .int y10), (0, .ref (ad 0)), (2, .int b2), (3, .int b3)]) hx hb dX5_resolve_48 hl (k := 1) rfl (by rw [ey10]; rfl) (by decide) rfl (fun ls hl => ?_)
        exact h _ _ _ hP hD hS (lv_sub hl [1, 0, 2, 3] rfl)
  case b51 =>
    intro b1 b2 b3 μ h H locs ls hP hD hS hl
    obtain ⟨y11, ey11⟩ : ∃ y : Int32, y = b3 + 1 := ⟨_, rfl⟩
    have h := h y11 ey11
    refine lv_iinc (v := y11) (lv' := [(3, .int y11), (0, .ref (ad 0)), (1, .int b1), (2, .int b2)]) hx hb dX5_resolve_51 hl (k := 3) rfl (by rw [ey11]; rfl) (by decide) rfl (fun ls hl => ?_)
    refine lv_goto (tgt := 19) hx hb dX5_resolve_54 (by decide) ?_
    exact h _ _ _ hP hD hS (lv_sub hl [1, 2, 3, 0] rfl)
set_option maxHeartbeats 4000000 in
set_option maxRecDepth 100000 in
theorem c_X5_buildResolvedMachine (l : Launch) (D : va_G) (cc : Nat → ClassId) (A : Nat → Prop) (ad : Nat → Nat) (rs : va_W) (p1 : Nat) (hp1 : isI shX 67 p1 32) (μ : Mem) (K : Mem → Prop) (h : f_X5_buildResolvedMachine p1 μ K) : Met l yX5_buildResolvedMachine wsX5_buildResolvedMachine ({ frames := 3, cells := 0, slots := 0, locals := 81 }) (va_Pc [.ref (ad 0), .ref (ad p1)] (PW shX 67 D cc A ad rs μ)) (va_Qv K (PW shX 67 D cc A ad rs) A) 0 0 A := by
  refine Met.ofW (cc := cX5_buildResolvedMachine) (maxL := 4) (ret := none) (by decide) rfl ?_
  intro p e s m args below meth c s₁ BB hml hv
  obtain ⟨rfl, hP, hK, hD, hN⟩ := hv
  have hx := BB.exec
  have hb := BB.bytes
  have hr := BB.returns
  have hts := atoms_spec (ws := wsX5_buildResolvedMachine) BB.pre
  have hown : s.vm.findClass RX5 = some m.cls := findClass_of_methodNamed BB.named
  have hlocks := BB.notSynchronized
  have hi_X5 : ∀ w ∈ u_ws RX5 TX5 12, w ∈ wsX5_buildResolvedMachine := by decide +kernel
  have hi_X2 : ∀ w ∈ u_ws RX2 TX2 7, w ∈ wsX5_buildResolvedMachine := by decide +kernel
  have hw0 := hts (.fieldLink RX5 12 "FeatureClashes" "setup" "LFeatureClashes$Setup;") (by decide +kernel)
  have hw1 := hts (.fieldLink RX5 96 "FeatureClashes$Setup" "base" "[I") (by decide +kernel)
  have hw2 := hts (.fieldLink RX5 109 "FeatureClashes$Setup" "edits" "[[I") (by decide +kernel)
  have hw3 := hts (.fieldLink RX5 45 "FeatureClashes" "resolvedOrder" "[I") (by decide +kernel)
  have hS : va_S A s.heap s.heap [] := va_S.rf
  have hl := lv_entry ([.ref (ad 0), .ref (ad p1)]) (n := 4) (Nat.le_of_ble_eq_true rfl)
  rw [lg_entry_eq]
  generalize (lg_sl ([.ref (ad 0), .ref (ad p1)]) ++ List.replicate (4 - (lg_sl ([.ref (ad 0), .ref (ad p1)])).length) Slot.unset).toArray = ls at hl ⊢
  have hl : lv_has ls 4 [(0, .ref (ad 0)), (1, .ref (ad p1))] := hl
  unfold f_X5_buildResolvedMachine at h
  refine (fun h => ?main) (h (fun b2 b3 μ => ∀ (H1 : Heap) (locs : List Loc) (ls : Array Slot), va_P D vwCl (wW shX 67 cc ad μ ++ rs) H1 → va_D A (wW shX 67 cc ad μ ++ rs) → va_S A s.heap H1 locs → lv_has ls 4 [(0, .ref (ad 0)), (1, .ref (ad p1)), (2, .int b2), (3, .int b3)] → W p l e (headSpec wsX5_buildResolvedMachine ({ frames := 3, cells := 0, slots := 0, locals := 81 })).room s m ([.ref (ad 0), .ref (ad p1)] : List Value).toArray below meth c H1 locs 0 0 (MQ below (va_Qv K (PW shX 67 D cc A ad rs) A) ([.ref (ad 0), .ref (ad p1)] : List Value).toArray s 0 0 A) (F0 m 18 ls ([]))) ?b18)
  case main =>
      refine lv_aload_n hx hb dX5_buildResolvedMachine_0 rfl (lv_at hl 0 rfl) ?_
      refine zw_get (C := RX5) (T := TX5) (M := 12) (v := .ref (ad 1)) hx hb hts hi_X5 hown hK hP kX_0 rfl 0 (by decide) hw0 rfl dX5_buildResolvedMachine_1 ?_
      refine zw_get (C := RX2) (T := TX2) (M := 7) (v := .ref (ad 2)) hx hb hts hi_X2 hown hK hP (oS sS1) rfl 4 (by decide) hw1 rfl dX5_buildResolvedMachine_4 ?_
      refine lv_aload_n hx hb dX5_buildResolvedMachine_7 rfl (lv_at hl 1 rfl) ?_
      refine zc_v (zc_runS (As := [.ref (ad 2), .ref (ad p1)]) (rest := []) ⟨hx, hb, hml, hown, hts⟩ (c_X5_copyRow l D cc A ad rs 2 (iS1 sS1) p1 hp1 μ _ h) (va_cwS 2 hts gX5_buildResolvedMachine_X5_copyRow rfl rfl rfl (by decide +kernel) ⟨Nat.le_of_ble_eq_true rfl, Nat.le_of_ble_eq_true rfl⟩) hK hN hP hD rfl hl.1 rfl (Nat.le_of_ble_eq_true rfl) dX5_buildResolvedMachine_8 ⟨Nat.zero_le _, Nat.zero_le _⟩) hS (fun μ2 H locs h hP hD hS => ?_)
      refine lv_aload_n hx hb dX5_buildResolvedMachine_11 rfl (lv_at hl 0 rfl) ?_
      refine zc_i (zc_runV (As := []) (rest := []) ⟨hx, hb, hml, hown, hts⟩ (c_X5_findResolvedOrder l D cc A ad rs  μ2 _ h) (cwV 0 hts gX5_buildResolvedMachine_X5_findResolvedOrder rfl rfl rfl (by decide +kernel) ⟨Nat.le_of_ble_eq_true rfl, Nat.le_of_ble_eq_true rfl⟩) kX_0 rfl hK hN hP hD rfl hl.1 rfl (Nat.le_of_ble_eq_true rfl) dX5_buildResolvedMachine_12 ⟨Nat.zero_le _, Nat.zero_le _⟩) hS (fun r3 μ4 H locs h hP hD hS => ?_)
      refine lv_istore_n (lv' := [(2, .int r3), (0, .ref (ad 0)), (1, .ref (ad p1))]) hx hb dX5_buildResolvedMachine_15 rfl hl (by decide) rfl (fun ls hl => ?_)
      refine lv_iconst (v := 0) hx hb dX5_buildResolvedMachine_16 (by decide) ?_
      refine lv_istore_n (lv' := [(3, .int 0), (2, .int r3), (0, .ref (ad 0)), (1, .ref (ad p1))]) hx hb dX5_buildResolvedMachine_17 rfl hl (by decide) rfl (fun ls hl => ?_)
      exact h _ _ _ hP hD hS (lv_sub hl [2, 3, 1, 0] rfl)
  case b18 =>
    intro b2 b3 μ h H locs ls hP hD hS hl
    refine lv_iload_n hx hb dX5_buildResolvedMachine_18 rfl (lv_at hl 3 rfl) ?_
    refine lv_iload_n hx hb dX5_buildResolvedMachine_19 rfl (lv_at hl 2 rfl) ?_
    refine lv_icmp_ge (tgt := 48) hx hb dX5_buildResolvedMachine_20 (by decide) (fun c5 => ?_) (fun c5 => ?_)
    · have h := h.1 c5
      exact W.vret hx hb hr (fun t ht hW => ⟨⟨μ, rfl, h, PW.to hK hN hP hD t ht hW⟩, hS.F ht⟩) hS.2.2 dX5_buildResolvedMachine_48
    · have h := h.2 c5
      refine lv_aload_n hx hb dX5_buildResolvedMachine_23 rfl (lv_at hl 1 rfl) ?_
      refine lv_aload_n hx hb dX5_buildResolvedMachine_24 rfl (lv_at hl 0 rfl) ?_
      refine zw_get (C := RX5) (T := TX5) (M := 12) (v := .ref (ad 1)) hx hb hts hi_X5 hown hK hP kX_0 rfl 0 (by decide) hw0 rfl dX5_buildResolvedMachine_25 ?_
      refine zw_get (C := RX2) (T := TX2) (M := 7) (v := .ref (ad 3)) hx hb hts hi_X2 hown hK hP (oS sS1) rfl 5 (by decide) hw2 rfl dX5_buildResolvedMachine_28 ?_
      refine lv_aload_n hx hb dX5_buildResolvedMachine_31 rfl (lv_at hl 0 rfl) ?_
      refine zw_get (C := RX5) (T := TX5) (M := 12) (v := .ref (ad 39)) hx hb hts hi_X5 hown hK hP kX_0 rfl 8 (by decide) hw3 rfl dX5_buildResolvedMachine_32 ?_
      refine lv_iload_n hx hb dX5_buildResolvedMachine_35 rfl (lv_at hl 3 rfl) ?_
      obtain ⟨hi6, h⟩ := h
      refine zw_iald hx hb hK hP kX_39 hi6 dX5_buildResolvedMachine_36 ?_
      obtain ⟨hi7, h⟩ := h
      refine zw_aalI hx hb hK hP (rS sS1) hi7 dX5_buildResolvedMachine_37 ?_
      refine W.eq (g2 := F0 m 38 ls ([.ref (ad (4 + (μ.1 39 (b3 : Int32).toNatClampNeg : Int32).toNatClampNeg)), .ref (ad p1)])) rfl ?_
      refine lv_aload_n hx hb dX5_buildResolvedMachine_38 rfl (lv_at hl 1 rfl) ?_
      refine zc_v (zc_runS (As := [.ref (ad p1), .ref (ad (4 + (μ.1 39 (b3 : Int32).toNatClampNeg : Int32).toNatClampNeg)), .ref (ad p1)]) (rest := []) ⟨hx, hb, hml, hown, hts⟩ (c_X5_putOn l D cc A ad rs p1 hp1 (4 + (μ.1 39 (b3 : Int32).toNatClampNeg : Int32).toNatClampNeg) (iSr sS1 (zw_lt hi7)) p1 hp1 μ _ h) (va_cwS 3 hts gX5_buildResolvedMachine_X5_putOn rfl rfl rfl (by decide +kernel) ⟨Nat.le_of_ble_eq_true rfl, Nat.le_of_ble_eq_true rfl⟩) hK hN hP hD rfl hl.1 rfl (Nat.le_of_ble_eq_true rfl) dX5_buildResolvedMachine_39 ⟨Nat.zero_le _, Nat.zero_le _⟩) hS (fun μ9 H locs h hP hD hS => ?_)
      obtain ⟨y10, ey10⟩ : ∃ y : Int32, y = b3 + 1 := ⟨_, rfl⟩
      have h := h y10 ey10
      refine lv_iinc (v := y10) (lv' := [(3, .int y10), (0, .ref (ad 0)), (1, .ref (ad p1)), (2, .int b2)]) hx hb dX5_buildResolvedMachine_42 hl (k := 3) rfl (by rw [ey10]; rfl) (by decide) rfl (fun ls hl => ?_)
      refine lv_goto (tgt := 18) hx hb dX5_buildResolvedMachine_45 (by decide) ?_
      exact h _ _ _ hP hD hS (lv_sub hl [1, 2, 3, 0] rfl)
set_option maxHeartbeats 4000000 in
set_option maxRecDepth 100000 in
theorem c_X5_add (l : Launch) (D : va_G) (cc : Nat → ClassId) (A : Nat → Prop) (ad : Nat → Nat) (rs : va_W) (x1 : Int32) (μ : Mem) (K : Int32 → Mem → Prop) (h : f_X5_add x1 μ K) : Met l yX5_add wsX5_add ({ frames := 1, cells := 0, slots := 0, locals := 21 }) (va_Pc [.ref (ad 0), .int x1] (PW shX 67 D cc A ad rs μ)) (va_Qi K (PW shX 67 D cc A ad rs) A) 0 0 A := by
  refine Met.ofW (cc := cX5_add) (maxL := 2) (ret := (some .int)) (by decide) rfl ?_
  intro p e s m args below meth c s₁ BB hml hv
  obtain ⟨rfl, hP, hK, hD, hN⟩ := hv
  have hx := BB.exec
  have hb := BB.bytes
  have hr := BB.returns
  have hts := atoms_spec (ws := wsX5_add) BB.pre
  have hown : s.vm.findClass RX5 = some m.cls := findClass_of_methodNamed BB.named
  have hlocks := BB.notSynchronized
  have hi_X5 : ∀ w ∈ u_ws RX5 TX5 12, w ∈ wsX5_add := by decide +kernel
  have hw0 := hts (.fieldLink RX5 12 "FeatureClashes" "setup" "LFeatureClashes$Setup;") (by decide +kernel)
  have hw1 := hts (.fieldLink RX5 35 "FeatureClashes" "wordLength" "I") (by decide +kernel)
  have hw2 := hts (.fieldLink RX5 31 "FeatureClashes" "word" "[I") (by decide +kernel)
  have hS : va_S A s.heap s.heap [] := va_S.rf
  have hl := lv_entry ([.ref (ad 0), .int x1]) (n := 2) (Nat.le_of_ble_eq_true rfl)
  rw [lg_entry_eq]
  generalize (lg_sl ([.ref (ad 0), .int x1]) ++ List.replicate (2 - (lg_sl ([.ref (ad 0), .int x1])).length) Slot.unset).toArray = ls at hl ⊢
  have hl : lv_has ls 2 [(0, .ref (ad 0)), (1, .int x1)] := hl
  unfold f_X5_add at h
  refine lv_aload_n hx hb dX5_add_0 rfl (lv_at hl 0 rfl) ?_
  refine zw_get (C := RX5) (T := TX5) (M := 12) (v := .ref (ad 1)) hx hb hts hi_X5 hown hK hP kX_0 rfl 0 (by decide) hw0 rfl dX5_add_1 ?_
  refine lv_iload_n hx hb dX5_add_4 rfl (lv_at hl 1 rfl) ?_
  refine zc_i (zc_runV (As := [.int x1]) (rest := []) ⟨hx, hb, hml, hown, hts⟩ (c_X2_hasLetter l D cc A ad rs 1 sS1 x1 μ _ h) (cwV 1 hts gX5_add_X2_hasLetter rfl rfl rfl (by decide +kernel) ⟨Nat.le_of_ble_eq_true rfl, Nat.le_of_ble_eq_true rfl⟩) (oS sS1) rfl hK hN hP hD rfl hl.1 rfl (Nat.le_of_ble_eq_true rfl) dX5_add_5 ⟨Nat.zero_le _, Nat.zero_le _⟩) hS (fun r1 μ2 H locs h hP hD hS => ?_)
  refine lv_if_ne (tgt := 13) hx hb dX5_add_8 (by decide) (fun c3 => ?_) (fun c3 => ?_)
  · have h := h.1 c3
    refine lv_aload_n hx hb dX5_add_13 rfl (lv_at hl 0 rfl) ?_
    refine zw_get (C := RX5) (T := TX5) (M := 12) (v := .int (μ2.1 0 5)) hx hb hts hi_X5 hown hK hP kX_0 rfl 5 (by decide) hw1 rfl dX5_add_14 ?_
    refine lv_bipush (v := 20) hx hb dX5_add_17 (by decide) ?_
    refine lv_icmp_lt (tgt := 25) hx hb dX5_add_19 (by decide) (fun c4 => ?_) (fun c4 => ?_)
    · have h := h.1 c4
      refine lv_aload_n hx hb dX5_add_25 rfl (lv_at hl 0 rfl) ?_
      refine zw_get (C := RX5) (T := TX5) (M := 12) (v := .ref (ad 36)) hx hb hts hi_X5 hown hK hP kX_0 rfl 4 (by decide) hw2 rfl dX5_add_26 ?_
      refine lv_aload_n hx hb dX5_add_29 rfl (lv_at hl 0 rfl) ?_
      refine zw_get (C := RX5) (T := TX5) (M := 12) (v := .int (μ2.1 0 5)) hx hb hts hi_X5 hown hK hP kX_0 rfl 5 (by decide) hw1 rfl dX5_add_30 ?_
      refine lv_iload_n hx hb dX5_add_33 rfl (lv_at hl 1 rfl) ?_
      obtain ⟨hi5, h⟩ := h
      refine zw_iast hx hb hK hP hD hS kX_36 hi5 dX5_add_34 (fun μ6 H locs eμ6 hP hD hS => ?_)
      have h := h μ6 eμ6
      refine lv_aload_n hx hb dX5_add_35 rfl (lv_at hl 0 rfl) ?_
      refine lv_dup hx hb dX5_add_36 rfl ?_
      refine zw_get (C := RX5) (T := TX5) (M := 12) (v := .int (μ6.1 0 5)) hx hb hts hi_X5 hown hK hP kX_0 rfl 5 (by decide) hw1 rfl dX5_add_37 ?_
      refine lv_iconst (v := 1) hx hb dX5_add_40 (by decide) ?_
      refine lv_iadd hx hb dX5_add_41 ?_
      refine zw_put (C := RX5) (T := TX5) (M := 12) hx hb hts hi_X5 tyX5 tyX5_ok nmX5 hown hK hP hD hS kX_0 rfl 5 (by decide) hw1 rfl rfl (Nat.le_of_ble_eq_true rfl) rfl dX5_add_42 (fun μ7 H locs eμ7 hP hD hS => ?_)
      have h := h μ7 eμ7
      refine lv_aload_n hx hb dX5_add_45 rfl (lv_at hl 0 rfl) ?_
      refine zw_get (C := RX5) (T := TX5) (M := 12) (v := .int (μ7.1 0 5)) hx hb hts hi_X5 hown hK hP kX_0 rfl 5 (by decide) hw1 rfl dX5_add_46 ?_
      exact W.iret (v := μ7.1 0 5) hx hb hr (fun t ht hW => ⟨⟨μ7.1 0 5, μ7, rfl, h, PW.to hK hN hP hD t ht hW⟩, hS.F ht⟩) hS.2.2 dX5_add_49
    · have h := h.2 c4
      refine lv_bipush (v := (-4)) hx hb dX5_add_22 (by decide) ?_
      exact W.iret (v := (-4)) hx hb hr (fun t ht hW => ⟨⟨(-4), μ2, rfl, h, PW.to hK hN hP hD t ht hW⟩, hS.F ht⟩) hS.2.2 dX5_add_24
  · have h := h.2 c3
    refine lv_iconst (v := (-1)) hx hb dX5_add_11 (by decide) ?_
    exact W.iret (v := (-1)) hx hb hr (fun t ht hW => ⟨⟨(-1), μ2, rfl, h, PW.to hK hN hP hD t ht hW⟩, hS.F ht⟩) hS.2.2 dX5_add_12
set_option maxHeartbeats 4000000 in
set_option maxRecDepth 100000 in
theorem c_X5_clearWord (l : Launch) (D : va_G) (cc : Nat → ClassId) (A : Nat → Prop) (ad : Nat → Nat) (rs : va_W)  (μ : Mem) (K : Int32 → Mem → Prop) (h : f_X5_clearWord  μ K) : Met l yX5_clearWord wsX5_clearWord ({ frames := 0, cells := 0, slots := 0, locals := 0 }) (va_Pc [.ref (ad 0)] (PW shX 67 D cc A ad rs μ)) (va_Qi K (PW shX 67 D cc A ad rs) A) 0 0 A := by
  refine Met.ofW (cc := cX5_clearWord) (maxL := 2) (ret := (some .int)) (by decide) rfl ?_
  intro p e s m args below meth c s₁ BB hml hv
  obtain ⟨rfl, hP, hK, hD, hN⟩ := hv
  have hx := BB.exec
  have hb := BB.bytes
  have hr := BB.returns
  have hts := atoms_spec (ws := wsX5_clearWord) BB.pre
  have hown : s.vm.findClass RX5 = some m.cls := findClass_of_methodNamed BB.named
  have hlocks := BB.notSynchronized
  have hi_X5 : ∀ w ∈ u_ws RX5 TX5 12, w ∈ wsX5_clearWord := by decide +kernel
  have hw0 := hts (.fieldLink RX5 35 "FeatureClashes" "wordLength" "I") (by decide +kernel)
  have hS : va_S A s.heap s.heap [] := va_S.rf
  have hl := lv_entry ([.ref (ad 0)]) (n := 2) (Nat.le_of_ble_eq_true rfl)
  rw [lg_entry_eq]
  generalize (lg_sl ([.ref (ad 0)]) ++ List.replicate (2 - (lg_sl ([.ref (ad 0)])).length) Slot.unset).toArray = ls at hl ⊢
  have hl : lv_has ls 2 [(0, .ref (ad 0))] := hl
  unfold f_X5_clearWord at h
  refine lv_aload_n hx hb dX5_clearWord_0 rfl (lv_at hl 0 rfl) ?_
  refine zw_get (C := RX5) (T := TX5) (M := 12) (v := .int (μ.1 0 5)) hx hb hts hi_X5 hown hK hP kX_0 rfl 5 (by decide) hw0 rfl dX5_clearWord_1 ?_
  refine lv_topi (fun y1 ey1 => ?_)
  have h := h y1 ey1
  refine lv_istore_n (lv' := [(1, .int y1), (0, .ref (ad 0))]) hx hb dX5_clearWord_4 rfl hl (by decide) rfl (fun ls hl => ?_)
  refine lv_aload_n hx hb dX5_clearWord_5 rfl (lv_at hl 1 rfl) ?_
  refine lv_iconst (v := 0) hx hb dX5_clearWord_6 (by decide) ?_
  refine zw_put (C := RX5) (T := TX5) (M := 12) hx hb hts hi_X5 tyX5 tyX5_ok nmX5 hown hK hP hD hS kX_0 rfl 5 (by decide) hw0 rfl rfl (Nat.le_of_ble_eq_true rfl) rfl dX5_clearWord_7 (fun μ2 H locs eμ2 hP hD hS => ?_)
  have h := h μ2 eμ2
  refine lv_iload_n hx hb dX5_clearWord_10 rfl (lv_at hl 0 rfl) ?_
  exact W.iret (v := y1) hx hb hr (fun t ht hW => ⟨⟨y1, μ2, rfl, h, PW.to hK hN hP hD t ht hW⟩, hS.F ht⟩) hS.2.2 dX5_clearWord_11
set_option maxHeartbeats 4000000 in
set_option maxRecDepth 100000 in
theorem c_X5_buildMachine (l : Launch) (D : va_G) (cc : Nat → ClassId) (A : Nat → Prop) (ad : Nat → Nat) (rs : va_W) (x1 : Int32) (p2 : Nat) (hp2 : isI shX 67 p2 32) (μ : Mem) (K : Mem → Prop) (h : f_X5_buildMachine x1 p2 μ K) : Met l yX5_buildMachine wsX5_buildMachine ({ frames := 4, cells := 0, slots := 0, locals := 104 }) (va_Pc [.ref (ad 0), .int x1, .ref (ad p2)] (PW shX 67 D cc A ad rs μ)) (va_Qv K (PW shX 67 D cc A ad rs) A) 0 0 A := by
  refine Met.ofW (cc := cX5_buildMachine) (maxL := 3) (ret := none) (by decide) rfl ?_
  intro p e s m args below meth c s₁ BB hml hv
  obtain ⟨rfl, hP, hK, hD, hN⟩ := hv
  have hx := BB.exec
  have hb := BB.bytes
  have hr := BB.returns
  have hts := atoms_spec (ws := wsX5_buildMachine) BB.pre
  have hown : s.vm.findClass RX5 = some m.cls := findClass_of_methodNamed BB.named
  have hlocks := BB.notSynchronized
  have hi_X5 : ∀ w ∈ u_ws RX5 TX5 12, w ∈ wsX5_buildMachine := by decide +kernel
  have hi_X2 : ∀ w ∈ u_ws RX2 TX2 7, w ∈ wsX5_buildMachine := by decide +kernel
  have hw0 := hts (.fieldLink RX5 12 "FeatureClashes" "setup" "LFeatureClashes$Setup;") (by decide +kernel)
  have hw1 := hts (.fieldLink RX5 96 "FeatureClashes$Setup" "base" "[I") (by decide +kernel)
  have hw2 := hts (.fieldLink RX5 109 "FeatureClashes$Setup" "edits" "[[I") (by decide +kernel)
  have hS : va_S A s.heap s.heap [] := va_S.rf
  have hl := lv_entry ([.ref (ad 0), .int x1, .ref (ad p2)]) (n := 3) (Nat.le_of_ble_eq_true rfl)
  rw [lg_entry_eq]
  generalize (lg_sl ([.ref (ad 0), .int x1, .ref (ad p2)]) ++ List.replicate (3 - (lg_sl ([.ref (ad 0), .int x1, .ref (ad p2)])).length) Slot.unset).toArray = ls at hl ⊢
  have hl : lv_has ls 3 [(0, .ref (ad 0)), (1, .int x1), (2, .ref (ad p2))] := hl
  unfold f_X5_buildMachine at h
  refine lv_iload_n hx hb dX5_buildMachine_0 rfl (lv_at hl 1 rfl) ?_
  refine lv_bipush (v := (-2)) hx hb dX5_buildMachine_1 (by decide) ?_
  refine lv_icmp_ne (tgt := 14) hx hb dX5_buildMachine_3 (by decide) (fun c1 => ?_) (fun c1 => ?_)
  · have h := h.1 c1
    refine lv_iload_n hx hb dX5_buildMachine_14 rfl (lv_at hl 1 rfl) ?_
    refine lv_iconst (v := (-1)) hx hb dX5_buildMachine_15 (by decide) ?_
    refine lv_icmp_ne (tgt := 33) hx hb dX5_buildMachine_16 (by decide) (fun c2 => ?_) (fun c2 => ?_)
    · have h := h.1 c2
      refine lv_aload_n hx hb dX5_buildMachine_33 rfl (lv_at hl 0 rfl) ?_
      refine zw_get (C := RX5) (T := TX5) (M := 12) (v := .ref (ad 1)) hx hb hts hi_X5 hown hK hP kX_0 rfl 0 (by decide) hw0 rfl dX5_buildMachine_34 ?_
      refine zw_get (C := RX2) (T := TX2) (M := 7) (v := .ref (ad 2)) hx hb hts hi_X2 hown hK hP (oS sS1) rfl 4 (by decide) hw1 rfl dX5_buildMachine_37 ?_
      refine lv_aload_n hx hb dX5_buildMachine_40 rfl (lv_at hl 0 rfl) ?_
      refine zw_get (C := RX5) (T := TX5) (M := 12) (v := .ref (ad 1)) hx hb hts hi_X5 hown hK hP kX_0 rfl 0 (by decide) hw0 rfl dX5_buildMachine_41 ?_
      refine zw_get (C := RX2) (T := TX2) (M := 7) (v := .ref (ad 3)) hx hb hts hi_X2 hown hK hP (oS sS1) rfl 5 (by decide) hw2 rfl dX5_buildMachine_44 ?_
      refine lv_iload_n hx hb dX5_buildMachine_47 rfl (lv_at hl 1 rfl) ?_
      obtain ⟨hi3, h⟩ := h
      refine zw_aalI hx hb hK hP (rS sS1) hi3 dX5_buildMachine_48 ?_
      refine W.eq (g2 := F0 m 49 ls ([.ref (ad (4 + (x1 : Int32).toNatClampNeg)), .ref (ad 2)])) rfl ?_
      refine lv_aload_n hx hb dX5_buildMachine_49 rfl (lv_at hl 2 rfl) ?_
      refine zc_v (zc_runS (As := [.ref (ad 2), .ref (ad (4 + (x1 : Int32).toNatClampNeg)), .ref (ad p2)]) (rest := []) ⟨hx, hb, hml, hown, hts⟩ (c_X5_putOn l D cc A ad rs 2 (iS1 sS1) (4 + (x1 : Int32).toNatClampNeg) (iSr sS1 (zw_lt hi3)) p2 hp2 μ _ h) (va_cwS 3 hts gX5_buildMachine_X5_putOn rfl rfl rfl (by decide +kernel) ⟨Nat.le_of_ble_eq_true rfl, Nat.le_of_ble_eq_true rfl⟩) hK hN hP hD rfl hl.1 rfl (Nat.le_of_ble_eq_true rfl) dX5_buildMachine_50 ⟨Nat.zero_le _, Nat.zero_le _⟩) hS (fun μ5 H locs h hP hD hS => ?_)
      exact W.vret hx hb hr (fun t ht hW => ⟨⟨μ5, rfl, h, PW.to hK hN hP hD t ht hW⟩, hS.F ht⟩) hS.2.2 dX5_buildMachine_53
    · have h := h.2 c2
      refine lv_aload_n hx hb dX5_buildMachine_19 rfl (lv_at hl 0 rfl) ?_
      refine zw_get (C := RX5) (T := TX5) (M := 12) (v := .ref (ad 1)) hx hb hts hi_X5 hown hK hP kX_0 rfl 0 (by decide) hw0 rfl dX5_buildMachine_20 ?_
      refine zw_get (C := RX2) (T := TX2) (M := 7) (v := .ref (ad 2)) hx hb hts hi_X2 hown hK hP (oS sS1) rfl 4 (by decide) hw1 rfl dX5_buildMachine_23 ?_
      refine lv_aload_n hx hb dX5_buildMachine_26 rfl (lv_at hl 2 rfl) ?_
      refine zc_v (zc_runS (As := [.ref (ad 2), .ref (ad p2)]) (rest := []) ⟨hx, hb, hml, hown, hts⟩ (c_X5_copyRow l D cc A ad rs 2 (iS1 sS1) p2 hp2 μ _ h) (va_cwS 2 hts gX5_buildMachine_X5_copyRow rfl rfl rfl (by decide +kernel) ⟨Nat.le_of_ble_eq_true rfl, Nat.le_of_ble_eq_true rfl⟩) hK hN hP hD rfl hl.1 rfl (Nat.le_of_ble_eq_true rfl) dX5_buildMachine_27 ⟨Nat.zero_le _, Nat.zero_le _⟩) hS (fun μ7 H locs h hP hD hS => ?_)
      refine lv_goto (tgt := 53) hx hb dX5_buildMachine_30 (by decide) ?_
      exact W.vret hx hb hr (fun t ht hW => ⟨⟨μ7, rfl, h, PW.to hK hN hP hD t ht hW⟩, hS.F ht⟩) hS.2.2 dX5_buildMachine_53
  · have h := h.2 c1
    refine lv_aload_n hx hb dX5_buildMachine_6 rfl (lv_at hl 0 rfl) ?_
    refine lv_aload_n hx hb dX5_buildMachine_7 rfl (lv_at hl 2 rfl) ?_
    refine zc_v (zc_runV (As := [.ref (ad p2)]) (rest := []) ⟨hx, hb, hml, hown, hts⟩ (c_X5_buildResolvedMachine l D cc A ad rs p2 hp2 μ _ h) (cwV 1 hts gX5_buildMachine_X5_buildResolvedMachine rfl rfl rfl (by decide +kernel) ⟨Nat.le_of_ble_eq_true rfl, Nat.le_of_ble_eq_true rfl⟩) kX_0 rfl hK hN hP hD rfl hl.1 rfl (Nat.le_of_ble_eq_true rfl) dX5_buildMachine_8 ⟨Nat.zero_le _, Nat.zero_le _⟩) hS (fun μ9 H locs h hP hD hS => ?_)
    refine lv_goto (tgt := 53) hx hb dX5_buildMachine_11 (by decide) ?_
    exact W.vret hx hb hr (fun t ht hW => ⟨⟨μ9, rfl, h, PW.to hK hN hP hD t ht hW⟩, hS.F ht⟩) hS.2.2 dX5_buildMachine_53
set_option maxHeartbeats 4000000 in
set_option maxRecDepth 100000 in
theorem c_X5_answerOf (l : Launch) (D : va_G) (cc : Nat → ClassId) (A : Nat → Prop) (ad : Nat → Nat) (rs : va_W) (p1 : Nat) (hp1 : isI shX 67 p1 32) (x2 : Int32) (μ : Mem) (K : Int32 → Mem → Prop) (h : f_X5_answerOf p1 x2 μ K) : Met l yX5_answerOf wsX5_answerOf ({ frames := 1, cells := 0, slots := 0, locals := 21 }) (va_Pc [.ref (ad 0), .ref (ad p1), .int x2] (PW shX 67 D cc A ad rs μ)) (va_Qi K (PW shX 67 D cc A ad rs) A) 0 0 A := by
  refine Met.ofW (cc := cX5_answerOf) (maxL := 7) (ret := (some .int)) (by decide) rfl ?_
  intro p e s m args below meth c s₁ BB hml hv
  obtain ⟨rfl, hP, hK, hD, hN⟩ := hv
  have hx := BB.exec
  have hb := BB.bytes
  have hr := BB.returns
  have hts := atoms_spec (ws := wsX5_answerOf) BB.pre
  have hown : s.vm.findClass RX5 = some m.cls := findClass_of_methodNamed BB.named
  have hlocks := BB.notSynchronized
  have hi_X5 : ∀ w ∈ u_ws RX5 TX5 12, w ∈ wsX5_answerOf := by decide +kernel
  have hw0 := hts (.fieldLink RX5 35 "FeatureClashes" "wordLength" "I") (by decide +kernel)
  have hw1 := hts (.fieldLink RX5 31 "FeatureClashes" "word" "[I") (by decide +kernel)
  have hS : va_S A s.heap s.heap [] := va_S.rf
  have hl := lv_entry ([.ref (ad 0), .ref (ad p1), .int x2]) (n := 7) (Nat.le_of_ble_eq_true rfl)
  rw [lg_entry_eq]
  generalize (lg_sl ([.ref (ad 0), .ref (ad p1), .int x2]) ++ List.replicate (7 - (lg_sl ([.ref (ad 0), .ref (ad p1), .int x2])).length) Slot.unset).toArray = ls at hl ⊢
  have hl : lv_has ls 7 [(0, .ref (ad 0)), (1, .ref (ad p1)), (2, .int x2)] := hl
  unfold f_X5_answerOf at h
  refine (fun h => ?main) (h (fun b2 b3 b4 b5 μ => ∀ (H1 : Heap) (locs : List Loc) (ls : Array Slot), va_P D vwCl (wW shX 67 cc ad μ ++ rs) H1 → va_D A (wW shX 67 cc ad μ ++ rs) → va_S A s.heap H1 locs → lv_has ls 7 [(0, .ref (ad 0)), (1, .ref (ad p1)), (2, .int b2), (3, .int b3), (4, .int b4), (5, .int b5)] → W p l e (headSpec wsX5_answerOf ({ frames := 1, cells := 0, slots := 0, locals := 21 })).room s m ([.ref (ad 0), .ref (ad p1), .int x2] : List Value).toArray below meth c H1 locs 0 0 (MQ below (va_Qi K (PW shX 67 D cc A ad rs) A) ([.ref (ad 0), .ref (ad p1), .int x2] : List Value).toArray s 0 0 A) (F0 m 9 ls ([]))) ?b9)
  case main =>
      refine lv_iconst (v := 0) hx hb dX5_answerOf_0 (by decide) ?_
      refine lv_istore_n (lv' := [(3, .int 0), (0, .ref (ad 0)), (1, .ref (ad p1)), (2, .int x2)]) hx hb dX5_answerOf_1 rfl hl (by decide) rfl (fun ls hl => ?_)
      refine lv_bipush (v := 10) hx hb dX5_answerOf_2 (by decide) ?_
      refine lv_istore (lv' := [(4, .int 10), (3, .int 0), (0, .ref (ad 0)), (1, .ref (ad p1)), (2, .int x2)]) hx hb dX5_answerOf_4 hl (by decide) rfl (fun ls hl => ?_)
      refine lv_iconst (v := 0) hx hb dX5_answerOf_6 (by decide) ?_
      refine lv_istore (lv' := [(5, .int 0), (4, .int 10), (3, .int 0), (0, .ref (ad 0)), (1, .ref (ad p1)), (2, .int x2)]) hx hb dX5_answerOf_7 hl (by decide) rfl (fun ls hl => ?_)
      exact h _ _ _ hP hD hS (lv_sub hl [3, 4, 5, 2, 1, 0] rfl)
  case b9 =>
    intro b2 b3 b4 b5 μ h H locs ls hP hD hS hl
    refine lv_iload hx hb dX5_answerOf_9 (lv_at hl 5 rfl) ?_
    refine lv_iload_n hx hb dX5_answerOf_11 rfl (lv_at hl 2 rfl) ?_
    refine lv_icmp_gt (tgt := 67) hx hb dX5_answerOf_12 (by decide) (fun c1 => ?_) (fun c1 => ?_)
    · have h := h.1 c1
      refine lv_iload hx hb dX5_answerOf_67 (lv_at hl 4 rfl) ?_
      exact W.iret (v := b4) hx hb hr (fun t ht hW => ⟨⟨b4, μ, rfl, h, PW.to hK hN hP hD t ht hW⟩, hS.F ht⟩) hS.2.2 dX5_answerOf_69
    · have h := h.2 c1
      refine lv_iload hx hb dX5_answerOf_15 (lv_at hl 5 rfl) ?_
      refine lv_aload_n hx hb dX5_answerOf_17 rfl (lv_at hl 0 rfl) ?_
      refine zw_get (C := RX5) (T := TX5) (M := 12) (v := .int (μ.1 0 5)) hx hb hts hi_X5 hown hK hP kX_0 rfl 5 (by decide) hw0 rfl dX5_answerOf_18 ?_
      refine lv_icmp_ge (tgt := 67) hx hb dX5_answerOf_21 (by decide) (fun c2 => ?_) (fun c2 => ?_)
      · have h := h.1 c2
        refine lv_iload hx hb dX5_answerOf_67 (lv_at hl 4 rfl) ?_
        exact W.iret (v := b4) hx hb hr (fun t ht hW => ⟨⟨b4, μ, rfl, h, PW.to hK hN hP hD t ht hW⟩, hS.F ht⟩) hS.2.2 dX5_answerOf_69
      · have h := h.2 c2
        refine lv_aload_n hx hb dX5_answerOf_24 rfl (lv_at hl 1 rfl) ?_
        refine lv_iload_n hx hb dX5_answerOf_25 rfl (lv_at hl 3 rfl) ?_
        refine lv_aload_n hx hb dX5_answerOf_26 rfl (lv_at hl 0 rfl) ?_
        refine zw_get (C := RX5) (T := TX5) (M := 12) (v := .ref (ad 36)) hx hb hts hi_X5 hown hK hP kX_0 rfl 4 (by decide) hw1 rfl dX5_answerOf_27 ?_
        refine lv_iload hx hb dX5_answerOf_30 (lv_at hl 5 rfl) ?_
        obtain ⟨hi3, h⟩ := h
        refine zw_iald hx hb hK hP kX_36 hi3 dX5_answerOf_32 ?_
        refine zc_i (zc_runS (As := [.int b3, .int (μ.1 36 (b5 : Int32).toNatClampNeg)]) (rest := [.ref (ad p1)]) ⟨hx, hb, hml, hown, hts⟩ (c_X5_cellOf l D cc A ad rs b3 (μ.1 36 (b5 : Int32).toNatClampNeg) μ _ h) (va_cwS 2 hts gX5_answerOf_X5_cellOf rfl rfl rfl (by decide +kernel) ⟨Nat.le_of_ble_eq_true rfl, Nat.le_of_ble_eq_true rfl⟩) hK hN hP hD rfl hl.1 rfl (Nat.le_of_ble_eq_true rfl) dX5_answerOf_33 ⟨Nat.zero_le _, Nat.zero_le _⟩) hS (fun r4 μ5 H locs h hP hD hS => ?_)
        obtain ⟨hi6, h⟩ := h
        refine zw_iald hx hb hK hP hp1 hi6 dX5_answerOf_36 ?_
        refine lv_topi (fun y7 ey7 => ?_)
        have h := h y7 ey7
        refine lv_istore (lv' := [(6, .int y7), (0, .ref (ad 0)), (1, .ref (ad p1)), (2, .int b2), (3, .int b3), (4, .int b4), (5, .int b5)]) hx hb dX5_answerOf_37 hl (by decide) rfl (fun ls hl => ?_)
        refine lv_iload hx hb dX5_answerOf_39 (lv_at hl 0 rfl) ?_
        refine lv_iconst (v := (-1)) hx hb dX5_answerOf_41 (by decide) ?_
        refine lv_icmp_ne (tgt := 48) hx hb dX5_answerOf_42 (by decide) (fun c8 => ?_) (fun c8 => ?_)
        · have h := h.1 c8
          refine lv_iload hx hb dX5_answerOf_48 (lv_at hl 0 rfl) ?_
          refine zc_i (zc_runS (As := [.int y7]) (rest := []) ⟨hx, hb, hml, hown, hts⟩ (c_X5_targetOf l D cc A ad rs y7 μ5 _ h) (va_cwS 1 hts gX5_answerOf_X5_targetOf rfl rfl rfl (by decide +kernel) ⟨Nat.le_of_ble_eq_true rfl, Nat.le_of_ble_eq_true rfl⟩) hK hN hP hD rfl hl.1 rfl (Nat.le_of_ble_eq_true rfl) dX5_answerOf_50 ⟨Nat.zero_le _, Nat.zero_le _⟩) hS (fun r9 μ10 H locs h hP hD hS => ?_)
          refine lv_istore_n (lv' := [(3, .int r9), (6, .int y7), (0, .ref (ad 0)), (1, .ref (ad p1)), (2, .int b2), (4, .int b4), (5, .int b5)]) hx hb dX5_answerOf_53 rfl hl (by decide) rfl (fun ls hl => ?_)
          refine lv_iload hx hb dX5_answerOf_54 (lv_at hl 1 rfl) ?_
          refine zc_i (zc_runS (As := [.int y7]) (rest := []) ⟨hx, hb, hml, hown, hts⟩ (c_X5_outputOf l D cc A ad rs y7 μ10 _ h) (va_cwS 1 hts gX5_answerOf_X5_outputOf rfl rfl rfl (by decide +kernel) ⟨Nat.le_of_ble_eq_true rfl, Nat.le_of_ble_eq_true rfl⟩) hK hN hP hD rfl hl.1 rfl (Nat.le_of_ble_eq_true rfl) dX5_answerOf_56 ⟨Nat.zero_le _, Nat.zero_le _⟩) hS (fun r11 μ12 H locs h hP hD hS => ?_)
          refine lv_istore (lv' := [(4, .int r11), (3, .int r9), (6, .int y7), (0, .ref (ad 0)), (1, .ref (ad p1)), (2, .int b2), (5, .int b5)]) hx hb dX5_answerOf_59 hl (by decide) rfl (fun ls hl => ?_)
          obtain ⟨y13, ey13⟩ : ∃ y : Int32, y = b5 + 1 := ⟨_, rfl⟩
          have h := h y13 ey13
          refine lv_iinc (v := y13) (lv' := [(5, .int y13), (4, .int r11), (3, .int r9), (6, .int y7), (0, .ref (ad 0)), (1, .ref (ad p1)), (2, .int b2)]) hx hb dX5_answerOf_61 hl (k := 6) rfl (by rw [ey13]; rfl) (by decide) rfl (fun ls hl => ?_)
          refine lv_goto (tgt := 9) hx hb dX5_answerOf_64 (by decide) ?_
          exact h _ _ _ hP hD hS (lv_sub hl [4, 5, 6, 2, 1, 0] rfl)
        · have h := h.2 c8
          refine lv_bipush (v := 10) hx hb dX5_answerOf_45 (by decide) ?_
          exact W.iret (v := 10) hx hb hr (fun t ht hW => ⟨⟨10, μ5, rfl, h, PW.to hK hN hP hD t ht hW⟩, hS.F ht⟩) hS.2.2 dX5_answerOf_47
