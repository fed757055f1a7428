set_option maxHeartbeats 4000000 in
set_option maxRecDepth 100000 in
theorem c_X0_letterAt (l : Launch) (D : va_G) (cc : Nat → ClassId) (A : Nat → Prop) (ad : Nat → Nat) (rs : va_W) (x1 : Int32) (μ : Mem) (K : Int32 → Mem → Prop) (h : f_X0_letterAt x1 μ K) : Met l yX0_letterAt wsX0_letterAt ({ frames := 0, cells := 0, slots := 0, locals := 0 }) (va_Pc [.ref (ad 41), .int x1] (PW shX 67 D cc A ad rs μ)) (va_Qi K (PW shX 67 D cc A ad rs) A) 0 0 A := by
  refine Met.ofW (cc := cX0_letterAt) (maxL := 2) (ret := (some .int)) (by decide) rfl ?_
  intro p e s m args below meth c s₁ BB hml hv
  obtain ⟨rfl, hP, hK, hD, hN⟩ := hv
  have hx := BB.exec
  have hb := BB.bytes
  have hr := BB.returns
  have hts := atoms_spec (ws := wsX0_letterAt) BB.pre
  have hown : s.vm.findClass RX0 = some m.cls := findClass_of_methodNamed BB.named
  have hlocks := BB.notSynchronized
  have hi_X0 : ∀ w ∈ u_ws RX0 TX0 9, w ∈ wsX0_letterAt := by decide +kernel
  have hw0 := hts (.fieldLink RX0 9 "FeatureClashes$Difference" "length" "I") (by decide +kernel)
  have hw1 := hts (.fieldLink RX0 15 "FeatureClashes$Difference" "letters" "[I") (by decide +kernel)
  have hS : va_S A s.heap s.heap [] := va_S.rf
  have hl := lv_entry ([.ref (ad 41), .int x1]) (n := 2) (Nat.le_of_ble_eq_true rfl)
  rw [lg_entry_eq]
  generalize (lg_sl ([.ref (ad 41), .int x1]) ++ List.replicate (2 - (lg_sl ([.ref (ad 41), .int x1])).length) Slot.unset).toArray = ls at hl ⊢
  have hl : lv_has ls 2 [(0, .ref (ad 41)), (1, .int x1)] := hl
  unfold f_X0_letterAt at h
  refine lv_iload_n hx hb dX0_letterAt_0 rfl (lv_at hl 1 rfl) ?_
  refine lv_if_lt (tgt := 21) hx hb dX0_letterAt_1 (by decide) (fun c1 => ?_) (fun c1 => ?_)
  · have h := h.1 c1
    refine lv_bipush (v := (-5)) hx hb dX0_letterAt_21 (by decide) ?_
    exact W.iret (v := (-5)) hx hb hr (fun t ht hW => ⟨⟨(-5), μ, rfl, h, PW.to hK hN hP hD t ht hW⟩, hS.F ht⟩) hS.2.2 dX0_letterAt_23
  · have h := h.2 c1
    refine lv_iload_n hx hb dX0_letterAt_4 rfl (lv_at hl 1 rfl) ?_
    refine lv_aload_n hx hb dX0_letterAt_5 rfl (lv_at hl 0 rfl) ?_
    refine zw_get (C := RX0) (T := TX0) (M := 9) (v := .int (μ.1 41 0)) hx hb hts hi_X0 hown hK hP kX_41 rfl 0 (by decide) hw0 rfl dX0_letterAt_6 ?_
    refine lv_icmp_ge (tgt := 21) hx hb dX0_letterAt_9 (by decide) (fun c2 => ?_) (fun c2 => ?_)
    · have h := h.1 c2
      refine lv_bipush (v := (-5)) hx hb dX0_letterAt_21 (by decide) ?_
      exact W.iret (v := (-5)) hx hb hr (fun t ht hW => ⟨⟨(-5), μ, rfl, h, PW.to hK hN hP hD t ht hW⟩, hS.F ht⟩) hS.2.2 dX0_letterAt_23
    · have h := h.2 c2
      refine lv_aload_n hx hb dX0_letterAt_12 rfl (lv_at hl 0 rfl) ?_
      refine zw_get (C := RX0) (T := TX0) (M := 9) (v := .ref (ad 42)) hx hb hts hi_X0 hown hK hP kX_41 rfl 1 (by decide) hw1 rfl dX0_letterAt_13 ?_
      refine lv_iload_n hx hb dX0_letterAt_16 rfl (lv_at hl 1 rfl) ?_
      obtain ⟨hi3, h⟩ := h
      refine zw_iald hx hb hK hP kX_42 hi3 dX0_letterAt_17 ?_
      refine lv_goto (tgt := 23) hx hb dX0_letterAt_18 (by decide) ?_
      exact W.iret (v := μ.1 42 (x1 : Int32).toNatClampNeg) hx hb hr (fun t ht hW => ⟨⟨μ.1 42 (x1 : Int32).toNatClampNeg, μ, rfl, h, PW.to hK hN hP hD t ht hW⟩, hS.F ht⟩) hS.2.2 dX0_letterAt_23
set_option maxHeartbeats 4000000 in
set_option maxRecDepth 100000 in
theorem c_X0_meet (l : Launch) (D : va_G) (cc : Nat → ClassId) (A : Nat → Prop) (ad : Nat → Nat) (rs : va_W) (x1 : Int32) (x2 : Int32) (x3 : Int32) (x4 : Int32) (μ : Mem) (K : Mem → Prop) (h : f_X0_meet x1 x2 x3 x4 μ K) : Met l yX0_meet wsX0_meet ({ frames := 0, cells := 0, slots := 0, locals := 0 }) (va_Pc [.ref (ad 41), .int x1, .int x2, .int x3, .int x4] (PW shX 67 D cc A ad rs μ)) (va_Qv K (PW shX 67 D cc A ad rs) A) 0 0 A := by
  refine Met.ofW (cc := cX0_meet) (maxL := 6) (ret := none) (by decide) rfl ?_
  intro p e s m args below meth c s₁ BB hml hv
  obtain ⟨rfl, hP, hK, hD, hN⟩ := hv
  have hx := BB.exec
  have hb := BB.bytes
  have hr := BB.returns
  have hts := atoms_spec (ws := wsX0_meet) BB.pre
  have hown : s.vm.findClass RX0 = some m.cls := findClass_of_methodNamed BB.named
  have hlocks := BB.notSynchronized
  have hi_X0 : ∀ w ∈ u_ws RX0 TX0 9, w ∈ wsX0_meet := by decide +kernel
  have hw0 := hts (.fieldLink RX0 34 "FeatureClashes$Difference" "met" "[Z") (by decide +kernel)
  have hw1 := hts (.fieldLink RX0 38 "FeatureClashes$Difference" "pairCount" "I") (by decide +kernel)
  have hw2 := hts (.fieldLink RX0 19 "FeatureClashes$Difference" "ones" "[I") (by decide +kernel)
  have hw3 := hts (.fieldLink RX0 22 "FeatureClashes$Difference" "twos" "[I") (by decide +kernel)
  have hw4 := hts (.fieldLink RX0 25 "FeatureClashes$Difference" "depths" "[I") (by decide +kernel)
  have hw5 := hts (.fieldLink RX0 28 "FeatureClashes$Difference" "parents" "[I") (by decide +kernel)
  have hw6 := hts (.fieldLink RX0 31 "FeatureClashes$Difference" "lastLetters" "[I") (by decide +kernel)
  have hS : va_S A s.heap s.heap [] := va_S.rf
  have hl := lv_entry ([.ref (ad 41), .int x1, .int x2, .int x3, .int x4]) (n := 6) (Nat.le_of_ble_eq_true rfl)
  rw [lg_entry_eq]
  generalize (lg_sl ([.ref (ad 41), .int x1, .int x2, .int x3, .int x4]) ++ List.replicate (6 - (lg_sl ([.ref (ad 41), .int x1, .int x2, .int x3, .int x4])).length) Slot.unset).toArray = ls at hl ⊢
  have hl : lv_has ls 6 [(0, .ref (ad 41)), (1, .int x1), (2, .int x2), (3, .int x3), (4, .int x4)] := hl
  unfold f_X0_meet at h
  refine (fun h => ?main) (h (fun b3 b4 z0 z1 μ => ∀ (H1 : Heap) (locs : List Loc) (ls : Array Slot), va_P D vwCl (wW shX 67 cc ad μ ++ rs) H1 → va_D A (wW shX 67 cc ad μ ++ rs) → va_S A s.heap H1 locs → lv_has ls 6 [(0, .ref (ad 41)), (3, .int b3), (4, .int b4)] → W p l e (headSpec wsX0_meet ({ frames := 0, cells := 0, slots := 0, locals := 0 })).room s m ([.ref (ad 41), .int x1, .int x2, .int x3, .int x4] : List Value).toArray below meth c H1 locs 0 0 (MQ below (va_Qv K (PW shX 67 D cc A ad rs) A) ([.ref (ad 41), .int x1, .int x2, .int x3, .int x4] : List Value).toArray s 0 0 A) (F0 m 80 ls ([.int z0, .int z1, .ref (ad 45)]))) ?b80)
  case main =>
      refine lv_iload_n hx hb dX0_meet_0 rfl (lv_at hl 1 rfl) ?_
      refine lv_bipush (v := 8) hx hb dX0_meet_1 (by decide) ?_
      refine lv_imul hx hb dX0_meet_3 ?_
      refine lv_iload_n hx hb dX0_meet_4 rfl (lv_at hl 2 rfl) ?_
      refine lv_iadd hx hb dX0_meet_5 ?_
      refine lv_topi (fun y1 ey1 => ?_)
      have h := h y1 ey1
      refine lv_istore (lv' := [(5, .int y1), (0, .ref (ad 41)), (1, .int x1), (2, .int x2), (3, .int x3), (4, .int x4)]) hx hb dX0_meet_6 hl (by decide) rfl (fun ls hl => ?_)
      refine lv_aload_n hx hb dX0_meet_8 rfl (lv_at hl 1 rfl) ?_
      refine zw_get (C := RX0) (T := TX0) (M := 9) (v := .ref (ad 48)) hx hb hts hi_X0 hown hK hP kX_41 rfl 7 (by decide) hw0 rfl dX0_meet_9 ?_
      refine lv_iload hx hb dX0_meet_12 (lv_at hl 0 rfl) ?_
      obtain ⟨hi2, h⟩ := h
      refine zw_zald hx hb hK hP kX_48 hi2 dX0_meet_14 ?_
      refine lv_if_ne (tgt := 27) hx hb dX0_meet_15 (by decide) (fun c3 => ?_) (fun c3 => ?_)
      · have h := h.1 c3
        exact W.vret hx hb hr (fun t ht hW => ⟨⟨μ, rfl, h, PW.to hK hN hP hD t ht hW⟩, hS.F ht⟩) hS.2.2 dX0_meet_27
      · have h := h.2 c3
        refine lv_aload_n hx hb dX0_meet_18 rfl (lv_at hl 1 rfl) ?_
        refine zw_get (C := RX0) (T := TX0) (M := 9) (v := .int (μ.1 41 8)) hx hb hts hi_X0 hown hK hP kX_41 rfl 8 (by decide) hw1 rfl dX0_meet_19 ?_
        refine lv_bipush (v := 64) hx hb dX0_meet_22 (by decide) ?_
        refine lv_icmp_lt (tgt := 28) hx hb dX0_meet_24 (by decide) (fun c4 => ?_) (fun c4 => ?_)
        · have h := h.1 c4
          refine lv_aload_n hx hb dX0_meet_28 rfl (lv_at hl 1 rfl) ?_
          refine zw_get (C := RX0) (T := TX0) (M := 9) (v := .ref (ad 48)) hx hb hts hi_X0 hown hK hP kX_41 rfl 7 (by decide) hw0 rfl dX0_meet_29 ?_
          refine lv_iload hx hb dX0_meet_32 (lv_at hl 0 rfl) ?_
          refine lv_iconst (v := 1) hx hb dX0_meet_34 (by decide) ?_
          obtain ⟨hi5, h⟩ := h
          refine zw_zast hx hb hK hP hD hS kX_48 hi5 dX0_meet_35 (fun μ6 H locs eμ6 hP hD hS => ?_)
          have h := h μ6 eμ6
          refine lv_aload_n hx hb dX0_meet_36 rfl (lv_at hl 1 rfl) ?_
          refine zw_get (C := RX0) (T := TX0) (M := 9) (v := .ref (ad 43)) hx hb hts hi_X0 hown hK hP kX_41 rfl 2 (by decide) hw2 rfl dX0_meet_37 ?_
          refine lv_aload_n hx hb dX0_meet_40 rfl (lv_at hl 1 rfl) ?_
          refine zw_get (C := RX0) (T := TX0) (M := 9) (v := .int (μ6.1 41 8)) hx hb hts hi_X0 hown hK hP kX_41 rfl 8 (by decide) hw1 rfl dX0_meet_41 ?_
          refine lv_iload_n hx hb dX0_meet_44 rfl (lv_at hl 2 rfl) ?_
          obtain ⟨hi7, h⟩ := h
          refine zw_iast hx hb hK hP hD hS kX_43 hi7 dX0_meet_45 (fun μ8 H locs eμ8 hP hD hS => ?_)
          have h := h μ8 eμ8
          refine lv_aload_n hx hb dX0_meet_46 rfl (lv_at hl 1 rfl) ?_
          refine zw_get (C := RX0) (T := TX0) (M := 9) (v := .ref (ad 44)) hx hb hts hi_X0 hown hK hP kX_41 rfl 3 (by decide) hw3 rfl dX0_meet_47 ?_
          refine lv_aload_n hx hb dX0_meet_50 rfl (lv_at hl 1 rfl) ?_
          refine zw_get (C := RX0) (T := TX0) (M := 9) (v := .int (μ8.1 41 8)) hx hb hts hi_X0 hown hK hP kX_41 rfl 8 (by decide) hw1 rfl dX0_meet_51 ?_
          refine lv_iload_n hx hb dX0_meet_54 rfl (lv_at hl 3 rfl) ?_
          obtain ⟨hi9, h⟩ := h
          refine zw_iast hx hb hK hP hD hS kX_44 hi9 dX0_meet_55 (fun μ10 H locs eμ10 hP hD hS => ?_)
          have h := h μ10 eμ10
          refine lv_aload_n hx hb dX0_meet_56 rfl (lv_at hl 1 rfl) ?_
          refine zw_get (C := RX0) (T := TX0) (M := 9) (v := .ref (ad 45)) hx hb hts hi_X0 hown hK hP kX_41 rfl 4 (by decide) hw4 rfl dX0_meet_57 ?_
          refine lv_aload_n hx hb dX0_meet_60 rfl (lv_at hl 1 rfl) ?_
          refine zw_get (C := RX0) (T := TX0) (M := 9) (v := .int (μ10.1 41 8)) hx hb hts hi_X0 hown hK hP kX_41 rfl 8 (by decide) hw1 rfl dX0_meet_61 ?_
          refine lv_iload_n hx hb dX0_meet_64 rfl (lv_at hl 4 rfl) ?_
          refine lv_if_ge (tgt := 72) hx hb dX0_meet_65 (by decide) (fun c11 => ?_) (fun c11 => ?_)
          · have h := h.1 c11
            refine lv_aload_n hx hb dX0_meet_72 rfl (lv_at hl 1 rfl) ?_
            refine zw_get (C := RX0) (T := TX0) (M := 9) (v := .ref (ad 45)) hx hb hts hi_X0 hown hK hP kX_41 rfl 4 (by decide) hw4 rfl dX0_meet_73 ?_
            refine lv_iload_n hx hb dX0_meet_76 rfl (lv_at hl 4 rfl) ?_
            obtain ⟨hi12, h⟩ := h
            refine zw_iald hx hb hK hP kX_45 hi12 dX0_meet_77 ?_
            refine lv_iconst (v := 1) hx hb dX0_meet_78 (by decide) ?_
            refine lv_iadd hx hb dX0_meet_79 ?_
            exact h _ _ _ hP hD hS (lv_sub hl [1, 4, 5] rfl)
          · have h := h.2 c11
            refine lv_iconst (v := 0) hx hb dX0_meet_68 (by decide) ?_
            refine lv_goto (tgt := 80) hx hb dX0_meet_69 (by decide) ?_
            exact h _ _ _ hP hD hS (lv_sub hl [1, 4, 5] rfl)
        · have h := h.2 c4
          exact W.vret hx hb hr (fun t ht hW => ⟨⟨μ, rfl, h, PW.to hK hN hP hD t ht hW⟩, hS.F ht⟩) hS.2.2 dX0_meet_27
  case b80 =>
    intro b3 b4 z0 z1 μ h H locs ls hP hD hS hl
    obtain ⟨hi13, h⟩ := h
    refine zw_iast hx hb hK hP hD hS kX_45 hi13 dX0_meet_80 (fun μ14 H locs eμ14 hP hD hS => ?_)
    have h := h μ14 eμ14
    refine lv_aload_n hx hb dX0_meet_81 rfl (lv_at hl 0 rfl) ?_
    refine zw_get (C := RX0) (T := TX0) (M := 9) (v := .ref (ad 46)) hx hb hts hi_X0 hown hK hP kX_41 rfl 5 (by decide) hw5 rfl dX0_meet_82 ?_
    refine lv_aload_n hx hb dX0_meet_85 rfl (lv_at hl 0 rfl) ?_
    refine zw_get (C := RX0) (T := TX0) (M := 9) (v := .int (μ14.1 41 8)) hx hb hts hi_X0 hown hK hP kX_41 rfl 8 (by decide) hw1 rfl dX0_meet_86 ?_
    refine lv_iload_n hx hb dX0_meet_89 rfl (lv_at hl 1 rfl) ?_
    obtain ⟨hi15, h⟩ := h
    refine zw_iast hx hb hK hP hD hS kX_46 hi15 dX0_meet_90 (fun μ16 H locs eμ16 hP hD hS => ?_)
    have h := h μ16 eμ16
    refine lv_aload_n hx hb dX0_meet_91 rfl (lv_at hl 0 rfl) ?_
    refine zw_get (C := RX0) (T := TX0) (M := 9) (v := .ref (ad 47)) hx hb hts hi_X0 hown hK hP kX_41 rfl 6 (by decide) hw6 rfl dX0_meet_92 ?_
    refine lv_aload_n hx hb dX0_meet_95 rfl (lv_at hl 0 rfl) ?_
    refine zw_get (C := RX0) (T := TX0) (M := 9) (v := .int (μ16.1 41 8)) hx hb hts hi_X0 hown hK hP kX_41 rfl 8 (by decide) hw1 rfl dX0_meet_96 ?_
    refine lv_iload hx hb dX0_meet_99 (lv_at hl 2 rfl) ?_
    obtain ⟨hi17, h⟩ := h
    refine zw_iast hx hb hK hP hD hS kX_47 hi17 dX0_meet_101 (fun μ18 H locs eμ18 hP hD hS => ?_)
    have h := h μ18 eμ18
    refine lv_aload_n hx hb dX0_meet_102 rfl (lv_at hl 0 rfl) ?_
    refine lv_dup hx hb dX0_meet_103 rfl ?_
    refine zw_get (C := RX0) (T := TX0) (M := 9) (v := .int (μ18.1 41 8)) hx hb hts hi_X0 hown hK hP kX_41 rfl 8 (by decide) hw1 rfl dX0_meet_104 ?_
    refine lv_iconst (v := 1) hx hb dX0_meet_107 (by decide) ?_
    refine lv_iadd hx hb dX0_meet_108 ?_
    refine zw_put (C := RX0) (T := TX0) (M := 9) hx hb hts hi_X0 tyX0 tyX0_ok nmX0 hown hK hP hD hS kX_41 rfl 8 (by decide) hw1 rfl rfl (Nat.le_of_ble_eq_true rfl) rfl dX0_meet_109 (fun μ19 H locs eμ19 hP hD hS => ?_)
    have h := h μ19 eμ19
    exact W.vret hx hb hr (fun t ht hW => ⟨⟨μ19, rfl, h, PW.to hK hN hP hD t ht hW⟩, hS.F ht⟩) hS.2.2 dX0_meet_112
set_option maxHeartbeats 4000000 in
set_option maxRecDepth 100000 in
theorem c_X5_cellOf (l : Launch) (D : va_G) (cc : Nat → ClassId) (A : Nat → Prop) (ad : Nat → Nat) (rs : va_W) (x0 : Int32) (x1 : Int32) (μ : Mem) (K : Int32 → Mem → Prop) (h : f_X5_cellOf x0 x1 μ K) : Met l yX5_cellOf wsX5_cellOf ({ frames := 0, cells := 0, slots := 0, locals := 0 }) (va_Pc [.int x0, .int x1] (PW shX 67 D cc A ad rs μ)) (va_Qi K (PW shX 67 D cc A ad rs) A) 0 0 A := by
  refine Met.ofW (cc := cX5_cellOf) (maxL := 2) (ret := (some .int)) (by decide) rfl ?_
  intro p e s m args below meth c s₁ BB hml hv
  obtain ⟨rfl, hP, hK, hD, hN⟩ := hv
  have hx := BB.exec
  have hb := BB.bytes
  have hr := BB.returns
  have hts := atoms_spec (ws := wsX5_cellOf) BB.pre
  have hown : s.vm.findClass RX5 = some m.cls := findClass_of_methodNamed BB.named
  have hlocks := BB.notSynchronized
  have hS : va_S A s.heap s.heap [] := va_S.rf
  have hl := lv_entry ([.int x0, .int x1]) (n := 2) (Nat.le_of_ble_eq_true rfl)
  rw [lg_entry_eq]
  generalize (lg_sl ([.int x0, .int x1]) ++ List.replicate (2 - (lg_sl ([.int x0, .int x1])).length) Slot.unset).toArray = ls at hl ⊢
  have hl : lv_has ls 2 [(0, .int x0), (1, .int x1)] := hl
  unfold f_X5_cellOf at h
  refine lv_iload_n hx hb dX5_cellOf_0 rfl (lv_at hl 0 rfl) ?_
  refine lv_iconst (v := 4) hx hb dX5_cellOf_1 (by decide) ?_
  refine lv_imul hx hb dX5_cellOf_2 ?_
  refine lv_iload_n hx hb dX5_cellOf_3 rfl (lv_at hl 1 rfl) ?_
  refine lv_iadd hx hb dX5_cellOf_4 ?_
  exact W.iret (v := (x0 * 4) + x1) hx hb hr (fun t ht hW => ⟨⟨(x0 * 4) + x1, μ, rfl, h, PW.to hK hN hP hD t ht hW⟩, hS.F ht⟩) hS.2.2 dX5_cellOf_5
set_option maxHeartbeats 4000000 in
set_option maxRecDepth 100000 in
theorem c_X5_outputOf (l : Launch) (D : va_G) (cc : Nat → ClassId) (A : Nat → Prop) (ad : Nat → Nat) (rs : va_W) (x0 : Int32) (μ : Mem) (K : Int32 → Mem → Prop) (h : f_X5_outputOf x0 μ K) : Met l yX5_outputOf wsX5_outputOf ({ frames := 0, cells := 0, slots := 0, locals := 0 }) (va_Pc [.int x0] (PW shX 67 D cc A ad rs μ)) (va_Qi K (PW shX 67 D cc A ad rs) A) 0 0 A := by
  refine Met.ofW (cc := cX5_outputOf) (maxL := 1) (ret := (some .int)) (by decide) rfl ?_
  intro p e s m args below meth c s₁ BB hml hv
  obtain ⟨rfl, hP, hK, hD, hN⟩ := hv
  have hx := BB.exec
  have hb := BB.bytes
  have hr := BB.returns
  have hts := atoms_spec (ws := wsX5_outputOf) BB.pre
  have hown : s.vm.findClass RX5 = some m.cls := findClass_of_methodNamed BB.named
  have hlocks := BB.notSynchronized
  have hS : va_S A s.heap s.heap [] := va_S.rf
  have hl := lv_entry ([.int x0]) (n := 1) (Nat.le_of_ble_eq_true rfl)
  rw [lg_entry_eq]
  generalize (lg_sl ([.int x0]) ++ List.replicate (1 - (lg_sl ([.int x0])).length) Slot.unset).toArray = ls at hl ⊢
  have hl : lv_has ls 1 [(0, .int x0)] := hl
  unfold f_X5_outputOf at h
  refine lv_iload_n hx hb dX5_outputOf_0 rfl (lv_at hl 0 rfl) ?_
  refine lv_bipush (v := 10) hx hb dX5_outputOf_1 (by decide) ?_
  refine lv_irem hx hb dX5_outputOf_3 (by decide) ?_
  exact W.iret (v := x0 - x0 / 10 * 10) hx hb hr (fun t ht hW => ⟨⟨x0 - x0 / 10 * 10, μ, rfl, h, PW.to hK hN hP hD t ht hW⟩, hS.F ht⟩) hS.2.2 dX5_outputOf_4
set_option maxHeartbeats 4000000 in
set_option maxRecDepth 100000 in
theorem c_X0_answersDiffer (l : Launch) (D : va_G) (cc : Nat → ClassId) (A : Nat → Prop) (ad : Nat → Nat) (rs : va_W) (x0 : Int32) (x1 : Int32) (μ : Mem) (K : Int32 → Mem → Prop) (h : f_X0_answersDiffer x0 x1 μ K) : Met l yX0_answersDiffer wsX0_answersDiffer ({ frames := 1, cells := 0, slots := 0, locals := 20 }) (va_Pc [.int x0, .int x1] (PW shX 67 D cc A ad rs μ)) (va_Qi K (PW shX 67 D cc A ad rs) A) 0 0 A := by
  refine Met.ofW (cc := cX0_answersDiffer) (maxL := 2) (ret := (some .boolean)) (by decide) rfl ?_
  intro p e s m args below meth c s₁ BB hml hv
  obtain ⟨rfl, hP, hK, hD, hN⟩ := hv
  have hx := BB.exec
  have hb := BB.bytes
  have hr := BB.returns
  have hts := atoms_spec (ws := wsX0_answersDiffer) BB.pre
  have hown : s.vm.findClass RX0 = some m.cls := findClass_of_methodNamed BB.named
  have hlocks := BB.notSynchronized
  have hw0 := hts (.initialized RX5) (by decide +kernel)
  have hw1 := hts (.static yX5_outputOf) (by decide +kernel)
  have hS : va_S A s.heap s.heap [] := va_S.rf
  have hl := lv_entry ([.int x0, .int x1]) (n := 2) (Nat.le_of_ble_eq_true rfl)
  rw [lg_entry_eq]
  generalize (lg_sl ([.int x0, .int x1]) ++ List.replicate (2 - (lg_sl ([.int x0, .int x1])).length) Slot.unset).toArray = ls at hl ⊢
  have hl : lv_has ls 2 [(0, .int x0), (1, .int x1)] := hl
  unfold f_X0_answersDiffer at h
  refine (fun h => ?main) (h (fun b0 b1 μ => ∀ (H1 : Heap) (locs : List Loc) (ls : Array Slot), va_P D vwCl (wW shX 67 cc ad μ ++ rs) H1 → va_D A (wW shX 67 cc ad μ ++ rs) → va_S A s.heap H1 locs → lv_has ls 2 [(0, .int b0), (1, .int b1)] → W p l e (headSpec wsX0_answersDiffer ({ frames := 1, cells := 0, slots := 0, locals := 20 })).room s m ([.int x0, .int x1] : List Value).toArray below meth c H1 locs 0 0 (MQ below (va_Qi K (PW shX 67 D cc A ad rs) A) ([.int x0, .int x1] : List Value).toArray s 0 0 A) (F0 m 10 ls ([]))) ?b10)
  case main =>
      refine lv_iload_n hx hb dX0_answersDiffer_0 rfl (lv_at hl 0 rfl) ?_
      refine lv_iconst (v := (-1)) hx hb dX0_answersDiffer_1 (by decide) ?_
      refine lv_icmp_eq (tgt := 10) hx hb dX0_answersDiffer_2 (by decide) (fun c1 => ?_) (fun c1 => ?_)
      · have h := h.1 c1
        exact h _ _ _ hP hD hS (lv_sub hl [0, 1] rfl)
      · have h := h.2 c1
        refine lv_iload_n hx hb dX0_answersDiffer_5 rfl (lv_at hl 1 rfl) ?_
        refine lv_iconst (v := (-1)) hx hb dX0_answersDiffer_6 (by decide) ?_
        refine lv_icmp_ne (tgt := 21) hx hb dX0_answersDiffer_7 (by decide) (fun c2 => ?_) (fun c2 => ?_)
        · have h := h.1 c2
          refine lv_iload_n hx hb dX0_answersDiffer_21 rfl (lv_at hl 0 rfl) ?_
          refine zc_i (zc_runSN (As := [.int x0]) (rest := []) ⟨hx, hb, hml, hown, hts⟩ (c_X5_outputOf l D cc A ad rs x0 μ _ h) ⟨va_cnB (host := "FeatureClashes") 1 hts gX0_answersDiffer_X5_outputOf_n61 rfl rfl rfl (hN 12 _ rfl) hw0 (by decide +kernel) ⟨Nat.le_of_ble_eq_true rfl, Nat.le_of_ble_eq_true rfl⟩, hw1, trivial⟩ hK hN hP hD rfl hl.1 rfl (Nat.le_of_ble_eq_true rfl) dX0_answersDiffer_22 ⟨Nat.zero_le _, Nat.zero_le _⟩) hS (fun r3 μ4 H locs h hP hD hS => ?_)
          refine lv_iload_n hx hb dX0_answersDiffer_25 rfl (lv_at hl 1 rfl) ?_
          refine zc_i (zc_runSN (As := [.int x1]) (rest := [.int r3]) ⟨hx, hb, hml, hown, hts⟩ (c_X5_outputOf l D cc A ad rs x1 μ4 _ h) ⟨va_cnB (host := "FeatureClashes") 1 hts gX0_answersDiffer_X5_outputOf_n61 rfl rfl rfl (hN 12 _ rfl) hw0 (by decide +kernel) ⟨Nat.le_of_ble_eq_true rfl, Nat.le_of_ble_eq_true rfl⟩, hw1, trivial⟩ hK hN hP hD rfl hl.1 rfl (Nat.le_of_ble_eq_true rfl) dX0_answersDiffer_26 ⟨Nat.zero_le _, Nat.zero_le _⟩) hS (fun r5 μ6 H locs h hP hD hS => ?_)
          refine lv_icmp_eq (tgt := 36) hx hb dX0_answersDiffer_29 (by decide) (fun c7 => ?_) (fun c7 => ?_)
          · have h := h.1 c7
            refine lv_iconst (v := 0) hx hb dX0_answersDiffer_36 (by decide) ?_
            exact W.zret (ty := .boolean) (v := 0) hx hb hr rfl (fun t ht hW => ⟨⟨0, μ6, rfl, h, PW.to hK hN hP hD t ht hW⟩, hS.F ht⟩) hS.2.2 dX0_answersDiffer_37
          · have h := h.2 c7
            refine lv_iconst (v := 1) hx hb dX0_answersDiffer_32 (by decide) ?_
            refine lv_goto (tgt := 37) hx hb dX0_answersDiffer_33 (by decide) ?_
            exact W.zret (ty := .boolean) (v := 1) hx hb hr rfl (fun t ht hW => ⟨⟨1, μ6, rfl, h, PW.to hK hN hP hD t ht hW⟩, hS.F ht⟩) hS.2.2 dX0_answersDiffer_37
        · have h := h.2 c2
          exact h _ _ _ hP hD hS (lv_sub hl [0, 1] rfl)
  case b10 =>
    intro b0 b1 μ h H locs ls hP hD hS hl
    refine lv_iload_n hx hb dX0_answersDiffer_10 rfl (lv_at hl 0 rfl) ?_
    refine lv_iload_n hx hb dX0_answersDiffer_11 rfl (lv_at hl 1 rfl) ?_
    refine lv_icmp_eq (tgt := 19) hx hb dX0_answersDiffer_12 (by decide) (fun c8 => ?_) (fun c8 => ?_)
    · have h := h.1 c8
      refine lv_iconst (v := 0) hx hb dX0_answersDiffer_19 (by decide) ?_
      exact W.zret (ty := .boolean) (v := 0) hx hb hr rfl (fun t ht hW => ⟨⟨0, μ, rfl, h, PW.to hK hN hP hD t ht hW⟩, hS.F ht⟩) hS.2.2 dX0_answersDiffer_20
    · have h := h.2 c8
      refine lv_iconst (v := 1) hx hb dX0_answersDiffer_15 (by decide) ?_
      refine lv_goto (tgt := 20) hx hb dX0_answersDiffer_16 (by decide) ?_
      exact W.zret (ty := .boolean) (v := 1) hx hb hr rfl (fun t ht hW => ⟨⟨1, μ, rfl, h, PW.to hK hN hP hD t ht hW⟩, hS.F ht⟩) hS.2.2 dX0_answersDiffer_20
set_option maxHeartbeats 4000000 in
set_option maxRecDepth 100000 in
theorem c_X0_keepWord (l : Launch) (D : va_G) (cc : Nat → ClassId) (A : Nat → Prop) (ad : Nat → Nat) (rs : va_W) (x1 : Int32) (x2 : Int32) (μ : Mem) (K : Mem → Prop) (h : f_X0_keepWord x1 x2 μ K) : Met l yX0_keepWord wsX0_keepWord ({ frames := 0, cells := 0, slots := 0, locals := 0 }) (va_Pc [.ref (ad 41), .int x1, .int x2] (PW shX 67 D cc A ad rs μ)) (va_Qv K (PW shX 67 D cc A ad rs) A) 0 0 A := by
  refine Met.ofW (cc := cX0_keepWord) (maxL := 6) (ret := none) (by decide) rfl ?_
  intro p e s m args below meth c s₁ BB hml hv
  obtain ⟨rfl, hP, hK, hD, hN⟩ := hv
  have hx := BB.exec
  have hb := BB.bytes
  have hr := BB.returns
  have hts := atoms_spec (ws := wsX0_keepWord) BB.pre
  have hown : s.vm.findClass RX0 = some m.cls := findClass_of_methodNamed BB.named
  have hlocks := BB.notSynchronized
  have hi_X0 : ∀ w ∈ u_ws RX0 TX0 9, w ∈ wsX0_keepWord := by decide +kernel
  have hw0 := hts (.fieldLink RX0 25 "FeatureClashes$Difference" "depths" "[I") (by decide +kernel)
  have hw1 := hts (.fieldLink RX0 9 "FeatureClashes$Difference" "length" "I") (by decide +kernel)
  have hw2 := hts (.fieldLink RX0 15 "FeatureClashes$Difference" "letters" "[I") (by decide +kernel)
  have hw3 := hts (.fieldLink RX0 31 "FeatureClashes$Difference" "lastLetters" "[I") (by decide +kernel)
  have hw4 := hts (.fieldLink RX0 28 "FeatureClashes$Difference" "parents" "[I") (by decide +kernel)
  have hS : va_S A s.heap s.heap [] := va_S.rf
  have hl := lv_entry ([.ref (ad 41), .int x1, .int x2]) (n := 6) (Nat.le_of_ble_eq_true rfl)
  rw [lg_entry_eq]
  generalize (lg_sl ([.ref (ad 41), .int x1, .int x2]) ++ List.replicate (6 - (lg_sl ([.ref (ad 41), .int x1, .int x2])).length) Slot.unset).toArray = ls at hl ⊢
  have hl : lv_has ls 6 [(0, .ref (ad 41)), (1, .int x1), (2, .int x2)] := hl
  unfold f_X0_keepWord at h
  refine (fun h => ?main) (h (fun b4 b5 μ => ∀ (H1 : Heap) (locs : List Loc) (ls : Array Slot), va_P D vwCl (wW shX 67 cc ad μ ++ rs) H1 → va_D A (wW shX 67 cc ad μ ++ rs) → va_S A s.heap H1 locs → lv_has ls 6 [(0, .ref (ad 41)), (4, .int b4), (5, .int b5)] → W p l e (headSpec wsX0_keepWord ({ frames := 0, cells := 0, slots := 0, locals := 0 })).room s m ([.ref (ad 41), .int x1, .int x2] : List Value).toArray below meth c H1 locs 0 0 (MQ below (va_Qv K (PW shX 67 D cc A ad rs) A) ([.ref (ad 41), .int x1, .int x2] : List Value).toArray s 0 0 A) (F0 m 29 ls ([]))) ?b29)
  case main =>
      refine lv_aload_n hx hb dX0_keepWord_0 rfl (lv_at hl 0 rfl) ?_
      refine zw_get (C := RX0) (T := TX0) (M := 9) (v := .ref (ad 45)) hx hb hts hi_X0 hown hK hP kX_41 rfl 4 (by decide) hw0 rfl dX0_keepWord_1 ?_
      refine lv_iload_n hx hb dX0_keepWord_4 rfl (lv_at hl 1 rfl) ?_
      obtain ⟨hi1, h⟩ := h
      refine zw_iald hx hb hK hP kX_45 hi1 dX0_keepWord_5 ?_
      refine lv_topi (fun y2 ey2 => ?_)
      have h := h y2 ey2
      refine lv_istore_n (lv' := [(3, .int y2), (0, .ref (ad 41)), (1, .int x1), (2, .int x2)]) hx hb dX0_keepWord_6 rfl hl (by decide) rfl (fun ls hl => ?_)
      refine lv_aload_n hx hb dX0_keepWord_7 rfl (lv_at hl 1 rfl) ?_
      refine lv_iload_n hx hb dX0_keepWord_8 rfl (lv_at hl 0 rfl) ?_
      refine lv_iconst (v := 1) hx hb dX0_keepWord_9 (by decide) ?_
      refine lv_iadd hx hb dX0_keepWord_10 ?_
      refine zw_put (C := RX0) (T := TX0) (M := 9) hx hb hts hi_X0 tyX0 tyX0_ok nmX0 hown hK hP hD hS kX_41 rfl 0 (by decide) hw1 rfl rfl (Nat.le_of_ble_eq_true rfl) rfl dX0_keepWord_11 (fun μ3 H locs eμ3 hP hD hS => ?_)
      have h := h μ3 eμ3
      refine lv_aload_n hx hb dX0_keepWord_14 rfl (lv_at hl 1 rfl) ?_
      refine zw_get (C := RX0) (T := TX0) (M := 9) (v := .ref (ad 42)) hx hb hts hi_X0 hown hK hP kX_41 rfl 1 (by decide) hw2 rfl dX0_keepWord_15 ?_
      refine lv_iload_n hx hb dX0_keepWord_18 rfl (lv_at hl 0 rfl) ?_
      refine lv_iload_n hx hb dX0_keepWord_19 rfl (lv_at hl 3 rfl) ?_
      obtain ⟨hi4, h⟩ := h
      refine zw_iast hx hb hK hP hD hS kX_42 hi4 dX0_keepWord_20 (fun μ5 H locs eμ5 hP hD hS => ?_)
      have h := h μ5 eμ5
      refine lv_iload_n hx hb dX0_keepWord_21 rfl (lv_at hl 2 rfl) ?_
      refine lv_istore (lv' := [(4, .int x1), (3, .int y2), (0, .ref (ad 41)), (1, .int x1), (2, .int x2)]) hx hb dX0_keepWord_22 hl (by decide) rfl (fun ls hl => ?_)
      refine lv_iload_n hx hb dX0_keepWord_24 rfl (lv_at hl 1 rfl) ?_
      refine lv_iconst (v := 1) hx hb dX0_keepWord_25 (by decide) ?_
      refine lv_isub hx hb dX0_keepWord_26 ?_
      refine lv_topi (fun y6 ey6 => ?_)
      have h := h y6 ey6
      refine lv_istore (lv' := [(5, .int y6), (4, .int x1), (3, .int y2), (0, .ref (ad 41)), (1, .int x1), (2, .int x2)]) hx hb dX0_keepWord_27 hl (by decide) rfl (fun ls hl => ?_)
      exact h _ _ _ hP hD hS (lv_sub hl [3, 1, 0] rfl)
  case b29 =>
    intro b4 b5 μ h H locs ls hP hD hS hl
    refine lv_iload hx hb dX0_keepWord_29 (lv_at hl 2 rfl) ?_
    refine lv_if_lt (tgt := 63) hx hb dX0_keepWord_31 (by decide) (fun c7 => ?_) (fun c7 => ?_)
    · have h := h.1 c7
      exact W.vret hx hb hr (fun t ht hW => ⟨⟨μ, rfl, h, PW.to hK hN hP hD t ht hW⟩, hS.F ht⟩) hS.2.2 dX0_keepWord_63
    · have h := h.2 c7
      refine lv_aload_n hx hb dX0_keepWord_34 rfl (lv_at hl 0 rfl) ?_
      refine zw_get (C := RX0) (T := TX0) (M := 9) (v := .ref (ad 42)) hx hb hts hi_X0 hown hK hP kX_41 rfl 1 (by decide) hw2 rfl dX0_keepWord_35 ?_
      refine lv_iload hx hb dX0_keepWord_38 (lv_at hl 2 rfl) ?_
      refine lv_aload_n hx hb dX0_keepWord_40 rfl (lv_at hl 0 rfl) ?_
      refine zw_get (C := RX0) (T := TX0) (M := 9) (v := .ref (ad 47)) hx hb hts hi_X0 hown hK hP kX_41 rfl 6 (by decide) hw3 rfl dX0_keepWord_41 ?_
      refine lv_iload hx hb dX0_keepWord_44 (lv_at hl 1 rfl) ?_
      obtain ⟨hi8, h⟩ := h
      refine zw_iald hx hb hK hP kX_47 hi8 dX0_keepWord_46 ?_
      obtain ⟨hi9, h⟩ := h
      refine zw_iast hx hb hK hP hD hS kX_42 hi9 dX0_keepWord_47 (fun μ10 H locs eμ10 hP hD hS => ?_)
      have h := h μ10 eμ10
      refine lv_aload_n hx hb dX0_keepWord_48 rfl (lv_at hl 0 rfl) ?_
      refine zw_get (C := RX0) (T := TX0) (M := 9) (v := .ref (ad 46)) hx hb hts hi_X0 hown hK hP kX_41 rfl 5 (by decide) hw4 rfl dX0_keepWord_49 ?_
      refine lv_iload hx hb dX0_keepWord_52 (lv_at hl 1 rfl) ?_
      obtain ⟨hi11, h⟩ := h
      refine zw_iald hx hb hK hP kX_46 hi11 dX0_keepWord_54 ?_
      refine lv_topi (fun y12 ey12 => ?_)
      have h := h y12 ey12
      refine lv_istore (lv' := [(4, .int y12), (0, .ref (ad 41)), (5, .int b5)]) hx hb dX0_keepWord_55 hl (by decide) rfl (fun ls hl => ?_)
      obtain ⟨y13, ey13⟩ : ∃ y : Int32, y = b5 + (-1) := ⟨_, rfl⟩
      have h := h y13 ey13
      refine lv_iinc (v := y13) (lv' := [(5, .int y13), (4, .int y12), (0, .ref (ad 41))]) hx hb dX0_keepWord_57 hl (k := 2) rfl (by rw [ey13]; rfl) (by decide) rfl (fun ls hl => ?_)
      refine lv_goto (tgt := 29) hx hb dX0_keepWord_60 (by decide) ?_
      exact h _ _ _ hP hD hS (lv_sub hl [2, 1, 0] rfl)
set_option maxHeartbeats 4000000 in
set_option maxRecDepth 100000 in
theorem c_X5_targetOf (l : Launch) (D : va_G) (cc : Nat → ClassId) (A : Nat → Prop) (ad : Nat → Nat) (rs : va_W) (x0 : Int32) (μ : Mem) (K : Int32 → Mem → Prop) (h : f_X5_targetOf x0 μ K) : Met l yX5_targetOf wsX5_targetOf ({ frames := 0, cells := 0, slots := 0, locals := 0 }) (va_Pc [.int x0] (PW shX 67 D cc A ad rs μ)) (va_Qi K (PW shX 67 D cc A ad rs) A) 0 0 A := by
  refine Met.ofW (cc := cX5_targetOf) (maxL := 1) (ret := (some .int)) (by decide) rfl ?_
  intro p e s m args below meth c s₁ BB hml hv
  obtain ⟨rfl, hP, hK, hD, hN⟩ := hv
  have hx := BB.exec
  have hb := BB.bytes
  have hr := BB.returns
  have hts := atoms_spec (ws := wsX5_targetOf) BB.pre
  have hown : s.vm.findClass RX5 = some m.cls := findClass_of_methodNamed BB.named
  have hlocks := BB.notSynchronized
  have hS : va_S A s.heap s.heap [] := va_S.rf
  have hl := lv_entry ([.int x0]) (n := 1) (Nat.le_of_ble_eq_true rfl)
  rw [lg_entry_eq]
  generalize (lg_sl ([.int x0]) ++ List.replicate (1 - (lg_sl ([.int x0])).length) Slot.unset).toArray = ls at hl ⊢
  have hl : lv_has ls 1 [(0, .int x0)] := hl
  unfold f_X5_targetOf at h
  refine lv_iload_n hx hb dX5_targetOf_0 rfl (lv_at hl 0 rfl) ?_
  refine lv_bipush (v := 10) hx hb dX5_targetOf_1 (by decide) ?_
  refine lv_idiv hx hb dX5_targetOf_3 (by decide) ?_
  exact W.iret (v := x0 / 10) hx hb hr (fun t ht hW => ⟨⟨x0 / 10, μ, rfl, h, PW.to hK hN hP hD t ht hW⟩, hS.F ht⟩) hS.2.2 dX5_targetOf_4
set_option maxHeartbeats 4000000 in
set_option maxRecDepth 100000 in
theorem c_X0_search (l : Launch) (D : va_G) (cc : Nat → ClassId) (A : Nat → Prop) (ad : Nat → Nat) (rs : va_W) (p1 : Nat) (hp1 : isI shX 67 p1 32) (p2 : Nat) (hp2 : isI shX 67 p2 32) (x3 : Int32) (μ : Mem) (K : Mem → Prop) (h : f_X0_search p1 p2 x3 μ K) : Met l yX0_search wsX0_search ({ frames := 2, cells := 0, slots := 0, locals := 41 }) (va_Pc [.ref (ad 41), .ref (ad p1), .ref (ad p2), .int x3] (PW shX 67 D cc A ad rs μ)) (va_Qv K (PW shX 67 D cc A ad rs) A) 0 0 A := by
  refine Met.ofW (cc := cX0_search) (maxL := 8) (ret := none) (by decide) rfl ?_
  intro p e s m args below meth c s₁ BB hml hv
  obtain ⟨rfl, hP, hK, hD, hN⟩ := hv
  have hx := BB.exec
  have hb := BB.bytes
  have hr := BB.returns
  have hts := atoms_spec (ws := wsX0_search) BB.pre
  have hown : s.vm.findClass RX0 = some m.cls := findClass_of_methodNamed BB.named
  have hlocks := BB.notSynchronized
  have hi_X0 : ∀ w ∈ u_ws RX0 TX0 9, w ∈ wsX0_search := by decide +kernel
  have hw0 := hts (.fieldLink RX0 9 "FeatureClashes$Difference" "length" "I") (by decide +kernel)
  have hw1 := hts (.fieldLink RX0 38 "FeatureClashes$Difference" "pairCount" "I") (by decide +kernel)
  have hw2 := hts (.fieldLink RX0 34 "FeatureClashes$Difference" "met" "[Z") (by decide +kernel)
  have hw3 := hts (.fieldLink RX0 19 "FeatureClashes$Difference" "ones" "[I") (by decide +kernel)
  have hw4 := hts (.initialized RX5) (by decide +kernel)
  have hw5 := hts (.static yX5_cellOf) (by decide +kernel)
  have hw6 := hts (.fieldLink RX0 22 "FeatureClashes$Difference" "twos" "[I") (by decide +kernel)
  have hw7 := hts (.static yX5_targetOf) (by decide +kernel)
  have hS : va_S A s.heap s.heap [] := va_S.rf
  have hl := lv_entry ([.ref (ad 41), .ref (ad p1), .ref (ad p2), .int x3]) (n := 8) (Nat.le_of_ble_eq_true rfl)
  rw [lg_entry_eq]
  generalize (lg_sl ([.ref (ad 41), .ref (ad p1), .ref (ad p2), .int x3]) ++ List.replicate (8 - (lg_sl ([.ref (ad 41), .ref (ad p1), .ref (ad p2), .int x3])).length) Slot.unset).toArray = ls at hl ⊢
  have hl : lv_has ls 8 [(0, .ref (ad 41)), (1, .ref (ad p1)), (2, .ref (ad p2)), (3, .int x3)] := hl
  unfold f_X0_search at h
  refine (fun h => ?main) (h (fun b3 b4 μ => ∀ (H1 : Heap) (locs : List Loc) (ls : Array Slot), va_P D vwCl (wW shX 67 cc ad μ ++ rs) H1 → va_D A (wW shX 67 cc ad μ ++ rs) → va_S A s.heap H1 locs → lv_has ls 8 [(0, .ref (ad 41)), (1, .ref (ad p1)), (2, .ref (ad p2)), (3, .int b3), (4, .int b4)] → W p l e (headSpec wsX0_search ({ frames := 2, cells := 0, slots := 0, locals := 41 })).room s m ([.ref (ad 41), .ref (ad p1), .ref (ad p2), .int x3] : List Value).toArray below meth c H1 locs 0 0 (MQ below (va_Qv K (PW shX 67 D cc A ad rs) A) ([.ref (ad 41), .ref (ad p1), .ref (ad p2), .int x3] : List Value).toArray s 0 0 A) (F0 m 13 ls ([]))) (fun b3 b4 μ => ∀ (H1 : Heap) (locs : List Loc) (ls : Array Slot), va_P D vwCl (wW shX 67 cc ad μ ++ rs) H1 → va_D A (wW shX 67 cc ad μ ++ rs) → va_S A s.heap H1 locs → lv_has ls 8 [(0, .ref (ad 41)), (1, .ref (ad p1)), (2, .ref (ad p2)), (3, .int b3), (4, .int b4)] → W p l e (headSpec wsX0_search ({ frames := 2, cells := 0, slots := 0, locals := 41 })).room s m ([.ref (ad 41), .ref (ad p1), .ref (ad p2), .int x3] : List Value).toArray below meth c H1 locs 0 0 (MQ below (va_Qv K (PW shX 67 D cc A ad rs) A) ([.ref (ad 41), .ref (ad p1), .ref (ad p2), .int x3] : List Value).toArray s 0 0 A) (F0 m 45 ls ([]))) (fun b3 b4 b5 μ => ∀ (H1 : Heap) (locs : List Loc) (ls : Array Slot), va_P D vwCl (wW shX 67 cc ad μ ++ rs) H1 → va_D A (wW shX 67 cc ad μ ++ rs) → va_S A s.heap H1 locs → lv_has ls 8 [(0, .ref (ad 41)), (1, .ref (ad p1)), (2, .ref (ad p2)), (3, .int b3), (4, .int b4), (5, .int b5)] → W p l e (headSpec wsX0_search ({ frames := 2, cells := 0, slots := 0, locals := 41 })).room s m ([.ref (ad 41), .ref (ad p1), .ref (ad p2), .int x3] : List Value).toArray below meth c H1 locs 0 0 (MQ below (va_Qv K (PW shX 67 D cc A ad rs) A) ([.ref (ad 41), .ref (ad p1), .ref (ad p2), .int x3] : List Value).toArray s 0 0 A) (F0 m 64 ls ([]))) (fun b3 b4 b5 μ => ∀ (H1 : Heap) (locs : List Loc) (ls : Array Slot), va_P D vwCl (wW shX 67 cc ad μ ++ rs) H1 → va_D A (wW shX 67 cc ad μ ++ rs) → va_S A s.heap H1 locs → lv_has ls 8 [(0, .ref (ad 41)), (1, .ref (ad p1)), (2, .ref (ad p2)), (3, .int b3), (4, .int b4), (5, .int b5)] → W p l e (headSpec wsX0_search ({ frames := 2, cells := 0, slots := 0, locals := 41 })).room s m ([.ref (ad 41), .ref (ad p1), .ref (ad p2), .int x3] : List Value).toArray below meth c H1 locs 0 0 (MQ below (va_Qv K (PW shX 67 D cc A ad rs) A) ([.ref (ad 41), .ref (ad p1), .ref (ad p2), .int x3] : List Value).toArray s 0 0 A) (F0 m 145 ls ([]))) ?b13 ?b45 ?b64 ?b145)
  case main =>
      refine lv_aload_n hx hb dX0_search_0 rfl (lv_at hl 0 rfl) ?_
      refine lv_iconst (v := 0) hx hb dX0_search_1 (by decide) ?_
      refine zw_put (C := RX0) (T := TX0) (M := 9) hx hb hts hi_X0 tyX0 tyX0_ok nmX0 hown hK hP hD hS kX_41 rfl 0 (by decide) hw0 rfl rfl (Nat.le_of_ble_eq_true rfl) rfl dX0_search_2 (fun μ1 H locs eμ1 hP hD hS => ?_)
      have h := h μ1 eμ1
      refine lv_aload_n hx hb dX0_search_5 rfl (lv_at hl 0 rfl) ?_
      refine lv_iconst (v := 0) hx hb dX0_search_6 (by decide) ?_
      refine zw_put (C := RX0) (T := TX0) (M := 9) hx hb hts hi_X0 tyX0 tyX0_ok nmX0 hown hK hP hD hS kX_41 rfl 8 (by decide) hw1 rfl rfl (Nat.le_of_ble_eq_true rfl) rfl dX0_search_7 (fun μ2 H locs eμ2 hP hD hS => ?_)
      have h := h μ2 eμ2
      refine lv_iconst (v := 0) hx hb dX0_search_10 (by decide) ?_
      refine lv_istore (lv' := [(4, .int 0), (0, .ref (ad 41)), (1, .ref (ad p1)), (2, .ref (ad p2)), (3, .int x3)]) hx hb dX0_search_11 hl (by decide) rfl (fun ls hl => ?_)
      exact h _ _ _ hP hD hS (lv_sub hl [1, 2, 3, 4, 0] rfl)
  case b13 =>
    intro b3 b4 μ h H locs ls hP hD hS hl
    refine lv_iload hx hb dX0_search_13 (lv_at hl 4 rfl) ?_
    refine lv_bipush (v := 64) hx hb dX0_search_15 (by decide) ?_
    refine lv_icmp_ge (tgt := 34) hx hb dX0_search_17 (by decide) (fun c3 => ?_) (fun c3 => ?_)
    · have h := h.1 c3
      refine lv_aload_n hx hb dX0_search_34 rfl (lv_at hl 0 rfl) ?_
      refine lv_iconst (v := 0) hx hb dX0_search_35 (by decide) ?_
      refine lv_iconst (v := 0) hx hb dX0_search_36 (by decide) ?_
      refine lv_iconst (v := (-1)) hx hb dX0_search_37 (by decide) ?_
      refine lv_iconst (v := 0) hx hb dX0_search_38 (by decide) ?_
      refine zc_v (zc_runV (As := [.int 0, .int 0, .int (-1), .int 0]) (rest := []) ⟨hx, hb, hml, hown, hts⟩ (c_X0_meet l D cc A ad rs 0 0 (-1) 0 μ _ h) (cwV 4 hts gX0_search_X0_meet rfl rfl rfl (by decide +kernel) ⟨Nat.le_of_ble_eq_true rfl, Nat.le_of_ble_eq_true rfl⟩) kX_41 rfl hK hN hP hD rfl hl.1 rfl (Nat.le_of_ble_eq_true rfl) dX0_search_39 ⟨Nat.zero_le _, Nat.zero_le _⟩) hS (fun μ5 H locs h hP hD hS => ?_)
      refine lv_iconst (v := 0) hx hb dX0_search_42 (by decide) ?_
      refine lv_istore (lv' := [(4, .int 0), (0, .ref (ad 41)), (1, .ref (ad p1)), (2, .ref (ad p2)), (3, .int b3)]) hx hb dX0_search_43 hl (by decide) rfl (fun ls hl => ?_)
      exact h _ _ _ hP hD hS (lv_sub hl [1, 2, 3, 4, 0] rfl)
    · have h := h.2 c3
      refine lv_aload_n hx hb dX0_search_20 rfl (lv_at hl 0 rfl) ?_
      refine zw_get (C := RX0) (T := TX0) (M := 9) (v := .ref (ad 48)) hx hb hts hi_X0 hown hK hP kX_41 rfl 7 (by decide) hw2 rfl dX0_search_21 ?_
      refine lv_iload hx hb dX0_search_24 (lv_at hl 4 rfl) ?_
      refine lv_iconst (v := 0) hx hb dX0_search_26 (by decide) ?_
      obtain ⟨hi6, h⟩ := h
      refine zw_zast hx hb hK hP hD hS kX_48 hi6 dX0_search_27 (fun μ7 H locs eμ7 hP hD hS => ?_)
      have h := h μ7 eμ7
      obtain ⟨y8, ey8⟩ : ∃ y : Int32, y = b4 + 1 := ⟨_, rfl⟩
      have h := h y8 ey8
      refine lv_iinc (v := y8) (lv' := [(4, .int y8), (0, .ref (ad 41)), (1, .ref (ad p1)), (2, .ref (ad p2)), (3, .int b3)]) hx hb dX0_search_28 hl (k := 4) rfl (by rw [ey8]; rfl) (by decide) rfl (fun ls hl => ?_)
      refine lv_goto (tgt := 13) hx hb dX0_search_31 (by decide) ?_
      exact h _ _ _ hP hD hS (lv_sub hl [1, 2, 3, 4, 0] rfl)
  case b45 =>
    intro b3 b4 μ h H locs ls hP hD hS hl
    refine lv_iload hx hb dX0_search_45 (lv_at hl 4 rfl) ?_
    refine lv_aload_n hx hb dX0_search_47 rfl (lv_at hl 0 rfl) ?_
    refine zw_get (C := RX0) (T := TX0) (M := 9) (v := .int (μ.1 41 8)) hx hb hts hi_X0 hown hK hP kX_41 rfl 8 (by decide) hw1 rfl dX0_search_48 ?_
    refine lv_icmp_ge (tgt := 157) hx hb dX0_search_51 (by decide) (fun c9 => ?_) (fun c9 => ?_)
    · have h := h.1 c9
      exact W.vret hx hb hr (fun t ht hW => ⟨⟨μ, rfl, h, PW.to hK hN hP hD t ht hW⟩, hS.F ht⟩) hS.2.2 dX0_search_157
    · have h := h.2 c9
      refine lv_iload hx hb dX0_search_54 (lv_at hl 4 rfl) ?_
      refine lv_bipush (v := 64) hx hb dX0_search_56 (by decide) ?_
      refine lv_icmp_ge (tgt := 157) hx hb dX0_search_58 (by decide) (fun c10 => ?_) (fun c10 => ?_)
      · have h := h.1 c10
        exact W.vret hx hb hr (fun t ht hW => ⟨⟨μ, rfl, h, PW.to hK hN hP hD t ht hW⟩, hS.F ht⟩) hS.2.2 dX0_search_157
      · have h := h.2 c10
        refine lv_iconst (v := 0) hx hb dX0_search_61 (by decide) ?_
        refine lv_istore (lv' := [(5, .int 0), (0, .ref (ad 41)), (1, .ref (ad p1)), (2, .ref (ad p2)), (3, .int b3), (4, .int b4)]) hx hb dX0_search_62 hl (by decide) rfl (fun ls hl => ?_)
        exact h _ _ _ hP hD hS (lv_sub hl [1, 2, 3, 4, 5, 0] rfl)
  case b64 =>
    intro b3 b4 b5 μ h H locs ls hP hD hS hl
    refine lv_iload hx hb dX0_search_64 (lv_at hl 5 rfl) ?_
    refine lv_iload_n hx hb dX0_search_66 rfl (lv_at hl 3 rfl) ?_
    refine lv_icmp_ge (tgt := 151) hx hb dX0_search_67 (by decide) (fun c11 => ?_) (fun c11 => ?_)
    · have h := h.1 c11
      obtain ⟨y12, ey12⟩ : ∃ y : Int32, y = b4 + 1 := ⟨_, rfl⟩
      have h := h y12 ey12
      refine lv_iinc (v := y12) (lv' := [(4, .int y12), (0, .ref (ad 41)), (1, .ref (ad p1)), (2, .ref (ad p2)), (3, .int b3), (5, .int b5)]) hx hb dX0_search_151 hl (k := 4) rfl (by rw [ey12]; rfl) (by decide) rfl (fun ls hl => ?_)
      refine lv_goto (tgt := 45) hx hb dX0_search_154 (by decide) ?_
      exact h _ _ _ hP hD hS (lv_sub hl [1, 2, 3, 4, 0] rfl)
    · have h := h.2 c11
      refine lv_aload_n hx hb dX0_search_70 rfl (lv_at hl 1 rfl) ?_
      refine lv_aload_n hx hb dX0_search_71 rfl (lv_at hl 0 rfl) ?_
      refine zw_get (C := RX0) (T := TX0) (M := 9) (v := .ref (ad 43)) hx hb hts hi_X0 hown hK hP kX_41 rfl 2 (by decide) hw3 rfl dX0_search_72 ?_
      refine lv_iload hx hb dX0_search_75 (lv_at hl 4 rfl) ?_
      obtain ⟨hi13, h⟩ := h
      refine zw_iald hx hb hK hP kX_43 hi13 dX0_search_77 ?_
      refine lv_iload hx hb dX0_search_78 (lv_at hl 5 rfl) ?_
      refine zc_i (zc_runSN (As := [.int (μ.1 43 (b4 : Int32).toNatClampNeg), .int b5]) (rest := [.ref (ad p1)]) ⟨hx, hb, hml, hown, hts⟩ (c_X5_cellOf l D cc A ad rs (μ.1 43 (b4 : Int32).toNatClampNeg) b5 μ _ h) ⟨va_cnB (host := "FeatureClashes") 2 hts gX0_search_X5_cellOf_n45 rfl rfl rfl (hN 14 _ rfl) hw4 (by decide +kernel) ⟨Nat.le_of_ble_eq_true rfl, Nat.le_of_ble_eq_true rfl⟩, hw5, trivial⟩ hK hN hP hD rfl hl.1 rfl (Nat.le_of_ble_eq_true rfl) dX0_search_80 ⟨Nat.zero_le _, Nat.zero_le _⟩) hS (fun r14 μ15 H locs h hP hD hS => ?_)
      obtain ⟨hi16, h⟩ := h
      refine zw_iald hx hb hK hP hp1 hi16 dX0_search_83 ?_
      refine lv_topi (fun y17 ey17 => ?_)
      have h := h y17 ey17
      refine lv_istore (lv' := [(6, .int y17), (0, .ref (ad 41)), (1, .ref (ad p1)), (2, .ref (ad p2)), (3, .int b3), (4, .int b4), (5, .int b5)]) hx hb dX0_search_84 hl (by decide) rfl (fun ls hl => ?_)
      refine lv_aload_n hx hb dX0_search_86 rfl (lv_at hl 3 rfl) ?_
      refine lv_aload_n hx hb dX0_search_87 rfl (lv_at hl 1 rfl) ?_
      refine zw_get (C := RX0) (T := TX0) (M := 9) (v := .ref (ad 44)) hx hb hts hi_X0 hown hK hP kX_41 rfl 3 (by decide) hw6 rfl dX0_search_88 ?_
      refine lv_iload hx hb dX0_search_91 (lv_at hl 5 rfl) ?_
      obtain ⟨hi18, h⟩ := h
      refine zw_iald hx hb hK hP kX_44 hi18 dX0_search_93 ?_
      refine lv_iload hx hb dX0_search_94 (lv_at hl 6 rfl) ?_
      refine zc_i (zc_runSN (As := [.int (μ15.1 44 (b4 : Int32).toNatClampNeg), .int b5]) (rest := [.ref (ad p2)]) ⟨hx, hb, hml, hown, hts⟩ (c_X5_cellOf l D cc A ad rs (μ15.1 44 (b4 : Int32).toNatClampNeg) b5 μ15 _ h) ⟨va_cnB (host := "FeatureClashes") 2 hts gX0_search_X5_cellOf_n45 rfl rfl rfl (hN 14 _ rfl) hw4 (by decide +kernel) ⟨Nat.le_of_ble_eq_true rfl, Nat.le_of_ble_eq_true rfl⟩, hw5, trivial⟩ hK hN hP hD rfl hl.1 rfl (Nat.le_of_ble_eq_true rfl) dX0_search_96 ⟨Nat.zero_le _, Nat.zero_le _⟩) hS (fun r19 μ20 H locs h hP hD hS => ?_)
      obtain ⟨hi21, h⟩ := h
      refine zw_iald hx hb hK hP hp2 hi21 dX0_search_99 ?_
      refine lv_topi (fun y22 ey22 => ?_)
      have h := h y22 ey22
      refine lv_istore (lv' := [(7, .int y22), (6, .int y17), (0, .ref (ad 41)), (1, .ref (ad p1)), (2, .ref (ad p2)), (3, .int b3), (4, .int b4), (5, .int b5)]) hx hb dX0_search_100 hl (by decide) rfl (fun ls hl => ?_)
      refine lv_iload hx hb dX0_search_102 (lv_at hl 1 rfl) ?_
      refine lv_iload hx hb dX0_search_104 (lv_at hl 0 rfl) ?_
      refine zc_i (zc_runS (As := [.int y17, .int y22]) (rest := []) ⟨hx, hb, hml, hown, hts⟩ (c_X0_answersDiffer l D cc A ad rs y17 y22 μ20 _ h) (va_cwS 2 hts gX0_search_X0_answersDiffer rfl rfl rfl (by decide +kernel) ⟨Nat.le_of_ble_eq_true rfl, Nat.le_of_ble_eq_true rfl⟩) hK hN hP hD rfl hl.1 rfl (Nat.le_of_ble_eq_true rfl) dX0_search_106 ⟨Nat.zero_le _, Nat.zero_le _⟩) hS (fun r23 μ24 H locs h hP hD hS => ?_)
      refine lv_if_eq (tgt := 121) hx hb dX0_search_109 (by decide) (fun c25 => ?_) (fun c25 => ?_)
      · have h := h.1 c25
        refine lv_iload hx hb dX0_search_121 (lv_at hl 1 rfl) ?_
        refine lv_iconst (v := (-1)) hx hb dX0_search_123 (by decide) ?_
        refine lv_icmp_eq (tgt := 145) hx hb dX0_search_124 (by decide) (fun c26 => ?_) (fun c26 => ?_)
        · have h := h.1 c26
          exact h _ _ _ hP hD hS (lv_sub hl [2, 3, 4, 5, 6, 7] rfl)
        · have h := h.2 c26
          refine lv_aload_n hx hb dX0_search_127 rfl (lv_at hl 2 rfl) ?_
          refine lv_iload hx hb dX0_search_128 (lv_at hl 1 rfl) ?_
          refine zc_i (zc_runSN (As := [.int y17]) (rest := [.ref (ad 41)]) ⟨hx, hb, hml, hown, hts⟩ (c_X5_targetOf l D cc A ad rs y17 μ24 _ h) ⟨va_cnB (host := "FeatureClashes") 1 hts gX0_search_X5_targetOf_n57 rfl rfl rfl (hN 13 _ rfl) hw4 (by decide +kernel) ⟨Nat.le_of_ble_eq_true rfl, Nat.le_of_ble_eq_true rfl⟩, hw7, trivial⟩ hK hN hP hD rfl hl.1 rfl (Nat.le_of_ble_eq_true rfl) dX0_search_130 ⟨Nat.zero_le _, Nat.zero_le _⟩) hS (fun r27 μ28 H locs h hP hD hS => ?_)
          refine lv_iload hx hb dX0_search_133 (lv_at hl 0 rfl) ?_
          refine zc_i (zc_runSN (As := [.int y22]) (rest := [.int r27, .ref (ad 41)]) ⟨hx, hb, hml, hown, hts⟩ (c_X5_targetOf l D cc A ad rs y22 μ28 _ h) ⟨va_cnB (host := "FeatureClashes") 1 hts gX0_search_X5_targetOf_n57 rfl rfl rfl (hN 13 _ rfl) hw4 (by decide +kernel) ⟨Nat.le_of_ble_eq_true rfl, Nat.le_of_ble_eq_true rfl⟩, hw7, trivial⟩ hK hN hP hD rfl hl.1 rfl (Nat.le_of_ble_eq_true rfl) dX0_search_135 ⟨Nat.zero_le _, Nat.zero_le _⟩) hS (fun r29 μ30 H locs h hP hD hS => ?_)
          refine lv_iload hx hb dX0_search_138 (lv_at hl 6 rfl) ?_
          refine lv_iload hx hb dX0_search_140 (lv_at hl 7 rfl) ?_
          refine zc_v (zc_runV (As := [.int r27, .int r29, .int b4, .int b5]) (rest := []) ⟨hx, hb, hml, hown, hts⟩ (c_X0_meet l D cc A ad rs r27 r29 b4 b5 μ30 _ h) (cwV 4 hts gX0_search_X0_meet rfl rfl rfl (by decide +kernel) ⟨Nat.le_of_ble_eq_true rfl, Nat.le_of_ble_eq_true rfl⟩) kX_41 rfl hK hN hP hD rfl hl.1 rfl (Nat.le_of_ble_eq_true rfl) dX0_search_142 ⟨Nat.zero_le _, Nat.zero_le _⟩) hS (fun μ32 H locs h hP hD hS => ?_)
          exact h _ _ _ hP hD hS (lv_sub hl [2, 3, 4, 5, 6, 7] rfl)
      · have h := h.2 c25
        refine lv_aload_n hx hb dX0_search_112 rfl (lv_at hl 2 rfl) ?_
        refine lv_iload hx hb dX0_search_113 (lv_at hl 6 rfl) ?_
        refine lv_iload hx hb dX0_search_115 (lv_at hl 7 rfl) ?_
        refine zc_v (zc_runV (As := [.int b4, .int b5]) (rest := []) ⟨hx, hb, hml, hown, hts⟩ (c_X0_keepWord l D cc A ad rs b4 b5 μ24 _ h) (cwV 2 hts gX0_search_X0_keepWord rfl rfl rfl (by decide +kernel) ⟨Nat.le_of_ble_eq_true rfl, Nat.le_of_ble_eq_true rfl⟩) kX_41 rfl hK hN hP hD rfl hl.1 rfl (Nat.le_of_ble_eq_true rfl) dX0_search_117 ⟨Nat.zero_le _, Nat.zero_le _⟩) hS (fun μ34 H locs h hP hD hS => ?_)
        exact W.vret hx hb hr (fun t ht hW => ⟨⟨μ34, rfl, h, PW.to hK hN hP hD t ht hW⟩, hS.F ht⟩) hS.2.2 dX0_search_120
  case b145 =>
    intro b3 b4 b5 μ h H locs ls hP hD hS hl
    obtain ⟨y35, ey35⟩ : ∃ y : Int32, y = b5 + 1 := ⟨_, rfl⟩
    have h := h y35 ey35
    refine lv_iinc (v := y35) (lv' := [(5, .int y35), (0, .ref (ad 41)), (1, .ref (ad p1)), (2, .ref (ad p2)), (3, .int b3), (4, .int b4)]) hx hb dX0_search_145 hl (k := 5) rfl (by rw [ey35]; rfl) (by decide) rfl (fun ls hl => ?_)
    refine lv_goto (tgt := 64) hx hb dX0_search_148 (by decide) ?_
    exact h _ _ _ hP hD hS (lv_sub hl [1, 2, 3, 4, 5, 0] rfl)
set_option maxHeartbeats 4000000 in
set_option maxRecDepth 100000 in
theorem c_X1_areRivals (l : Launch) (D : va_G) (cc : Nat → ClassId) (A : Nat → Prop) (ad : Nat → Nat) (rs : va_W) (p0 : Nat) (hp0 : isI shX 67 p0 32) (p1 : Nat) (hp1 : isI shX 67 p1 32) (μ : Mem) (K : Int32 → Mem → Prop) (h : f_X1_areRivals p0 p1 μ K) : Met l yX1_areRivals wsX1_areRivals ({ frames := 0, cells := 0, slots := 0, locals := 0 }) (va_Pc [.ref (ad p0), .ref (ad p1)] (PW shX 67 D cc A ad rs μ)) (va_Qi K (PW shX 67 D cc A ad rs) A) 0 0 A := by
  refine Met.ofW (cc := cX1_areRivals) (maxL := 4) (ret := (some .boolean)) (by decide) rfl ?_
  intro p e s m args below meth c s₁ BB hml hv
  obtain ⟨rfl, hP, hK, hD, hN⟩ := hv
  have hx := BB.exec
  have hb := BB.bytes
  have hr := BB.returns
  have hts := atoms_spec (ws := wsX1_areRivals) BB.pre
  have hown : s.vm.findClass RX1 = some m.cls := findClass_of_methodNamed BB.named
  have hlocks := BB.notSynchronized
  have hS : va_S A s.heap s.heap [] := va_S.rf
  have hl := lv_entry ([.ref (ad p0), .ref (ad p1)]) (n := 4) (Nat.le_of_ble_eq_true rfl)
  rw [lg_entry_eq]
  generalize (lg_sl ([.ref (ad p0), .ref (ad p1)]) ++ List.replicate (4 - (lg_sl ([.ref (ad p0), .ref (ad p1)])).length) Slot.unset).toArray = ls at hl ⊢
  have hl : lv_has ls 4 [(0, .ref (ad p0)), (1, .ref (ad p1))] := hl
  unfold f_X1_areRivals at h
  refine (fun h => ?main) (h (fun b2 μ => ∀ (H1 : Heap) (locs : List Loc) (ls : Array Slot), va_P D vwCl (wW shX 67 cc ad μ ++ rs) H1 → va_D A (wW shX 67 cc ad μ ++ rs) → va_S A s.heap H1 locs → lv_has ls 4 [(0, .ref (ad p0)), (1, .ref (ad p1)), (2, .int b2)] → W p l e (headSpec wsX1_areRivals ({ frames := 0, cells := 0, slots := 0, locals := 0 })).room s m ([.ref (ad p0), .ref (ad p1)] : List Value).toArray below meth c H1 locs 0 0 (MQ below (va_Qi K (PW shX 67 D cc A ad rs) A) ([.ref (ad p0), .ref (ad p1)] : List Value).toArray s 0 0 A) (F0 m 2 ls ([]))) (fun b2 μ => ∀ (H1 : Heap) (locs : List Loc) (ls : Array Slot), va_P D vwCl (wW shX 67 cc ad μ ++ rs) H1 → va_D A (wW shX 67 cc ad μ ++ rs) → va_S A s.heap H1 locs → lv_has ls 4 [(0, .ref (ad p0)), (1, .ref (ad p1)), (2, .int b2)] → W p l e (headSpec wsX1_areRivals ({ frames := 0, cells := 0, slots := 0, locals := 0 })).room s m ([.ref (ad p0), .ref (ad p1)] : List Value).toArray below meth c H1 locs 0 0 (MQ below (va_Qi K (PW shX 67 D cc A ad rs) A) ([.ref (ad p0), .ref (ad p1)] : List Value).toArray s 0 0 A) (F0 m 28 ls ([]))) (fun b2 z0 μ => ∀ (H1 : Heap) (locs : List Loc) (ls : Array Slot), va_P D vwCl (wW shX 67 cc ad μ ++ rs) H1 → va_D A (wW shX 67 cc ad μ ++ rs) → va_S A s.heap H1 locs → lv_has ls 4 [(0, .ref (ad p0)), (1, .ref (ad p1)), (2, .int b2)] → W p l e (headSpec wsX1_areRivals ({ frames := 0, cells := 0, slots := 0, locals := 0 })).room s m ([.ref (ad p0), .ref (ad p1)] : List Value).toArray below meth c H1 locs 0 0 (MQ below (va_Qi K (PW shX 67 D cc A ad rs) A) ([.ref (ad p0), .ref (ad p1)] : List Value).toArray s 0 0 A) (F0 m 29 ls ([.int z0]))) (fun b2 μ => ∀ (H1 : Heap) (locs : List Loc) (ls : Array Slot), va_P D vwCl (wW shX 67 cc ad μ ++ rs) H1 → va_D A (wW shX 67 cc ad μ ++ rs) → va_S A s.heap H1 locs → lv_has ls 4 [(0, .ref (ad p0)), (1, .ref (ad p1)), (2, .int b2)] → W p l e (headSpec wsX1_areRivals ({ frames := 0, cells := 0, slots := 0, locals := 0 })).room s m ([.ref (ad p0), .ref (ad p1)] : List Value).toArray below meth c H1 locs 0 0 (MQ below (va_Qi K (PW shX 67 D cc A ad rs) A) ([.ref (ad p0), .ref (ad p1)] : List Value).toArray s 0 0 A) (F0 m 45 ls ([]))) ?b2 ?b28 ?b29 ?b45)
  case main =>
      refine lv_iconst (v := 0) hx hb dX1_areRivals_0 (by decide) ?_
      refine lv_istore_n (lv' := [(2, .int 0), (0, .ref (ad p0)), (1, .ref (ad p1))]) hx hb dX1_areRivals_1 rfl hl (by decide) rfl (fun ls hl => ?_)
      exact h _ _ _ hP hD hS (lv_sub hl [1, 2, 0] rfl)
  case b2 =>
    intro b2 μ h H locs ls hP hD hS hl
    refine lv_iload_n hx hb dX1_areRivals_2 rfl (lv_at hl 2 rfl) ?_
    refine lv_bipush (v := 32) hx hb dX1_areRivals_3 (by decide) ?_
    refine lv_icmp_ge (tgt := 51) hx hb dX1_areRivals_5 (by decide) (fun c1 => ?_) (fun c1 => ?_)
    · have h := h.1 c1
      refine lv_iconst (v := 0) hx hb dX1_areRivals_51 (by decide) ?_
      exact W.zret (ty := .boolean) (v := 0) hx hb hr rfl (fun t ht hW => ⟨⟨0, μ, rfl, h, PW.to hK hN hP hD t ht hW⟩, hS.F ht⟩) hS.2.2 dX1_areRivals_52
    · have h := h.2 c1
      refine lv_aload_n hx hb dX1_areRivals_8 rfl (lv_at hl 0 rfl) ?_
      refine lv_iload_n hx hb dX1_areRivals_9 rfl (lv_at hl 2 rfl) ?_
      obtain ⟨hi2, h⟩ := h
      refine zw_iald hx hb hK hP hp0 hi2 dX1_areRivals_10 ?_
      refine lv_bipush (v := (-2)) hx hb dX1_areRivals_11 (by decide) ?_
      refine lv_icmp_eq (tgt := 28) hx hb dX1_areRivals_13 (by decide) (fun c3 => ?_) (fun c3 => ?_)
      · have h := h.1 c3
        exact h _ _ _ hP hD hS (lv_sub hl [0, 1, 2] rfl)
      · have h := h.2 c3
        refine lv_aload_n hx hb dX1_areRivals_16 rfl (lv_at hl 1 rfl) ?_
        refine lv_iload_n hx hb dX1_areRivals_17 rfl (lv_at hl 2 rfl) ?_
        obtain ⟨hi4, h⟩ := h
        refine zw_iald hx hb hK hP hp1 hi4 dX1_areRivals_18 ?_
        refine lv_bipush (v := (-2)) hx hb dX1_areRivals_19 (by decide) ?_
        refine lv_icmp_eq (tgt := 28) hx hb dX1_areRivals_21 (by decide) (fun c5 => ?_) (fun c5 => ?_)
        · have h := h.1 c5
          exact h _ _ _ hP hD hS (lv_sub hl [0, 1, 2] rfl)
        · have h := h.2 c5
          refine lv_iconst (v := 1) hx hb dX1_areRivals_24 (by decide) ?_
          refine lv_goto (tgt := 29) hx hb dX1_areRivals_25 (by decide) ?_
          exact h _ _ _ hP hD hS (lv_sub hl [0, 1, 2] rfl)
  case b28 =>
    intro b2 μ h H locs ls hP hD hS hl
    refine lv_iconst (v := 0) hx hb dX1_areRivals_28 (by decide) ?_
    exact h _ _ _ hP hD hS (lv_sub hl [0, 1, 2] rfl)
  case b29 =>
    intro b2 z0 μ h H locs ls hP hD hS hl
    refine lv_istore_n (lv' := [(3, .int z0), (0, .ref (ad p0)), (1, .ref (ad p1)), (2, .int b2)]) hx hb dX1_areRivals_29 rfl hl (by decide) rfl (fun ls hl => ?_)
    refine lv_iload_n hx hb dX1_areRivals_30 rfl (lv_at hl 0 rfl) ?_
    refine lv_if_eq (tgt := 45) hx hb dX1_areRivals_31 (by decide) (fun c6 => ?_) (fun c6 => ?_)
    · have h := h.1 c6
      exact h _ _ _ hP hD hS (lv_sub hl [1, 2, 3] rfl)
    · have h := h.2 c6
      refine lv_aload_n hx hb dX1_areRivals_34 rfl (lv_at hl 1 rfl) ?_
      refine lv_iload_n hx hb dX1_areRivals_35 rfl (lv_at hl 3 rfl) ?_
      obtain ⟨hi7, h⟩ := h
      refine zw_iald hx hb hK hP hp0 hi7 dX1_areRivals_36 ?_
      refine lv_aload_n hx hb dX1_areRivals_37 rfl (lv_at hl 2 rfl) ?_
      refine lv_iload_n hx hb dX1_areRivals_38 rfl (lv_at hl 3 rfl) ?_
      obtain ⟨hi8, h⟩ := h
      refine zw_iald hx hb hK hP hp1 hi8 dX1_areRivals_39 ?_
      refine lv_icmp_eq (tgt := 45) hx hb dX1_areRivals_40 (by decide) (fun c9 => ?_) (fun c9 => ?_)
      · have h := h.1 c9
        exact h _ _ _ hP hD hS (lv_sub hl [1, 2, 3] rfl)
      · have h := h.2 c9
        refine lv_iconst (v := 1) hx hb dX1_areRivals_43 (by decide) ?_
        exact W.zret (ty := .boolean) (v := 1) hx hb hr rfl (fun t ht hW => ⟨⟨1, μ, rfl, h, PW.to hK hN hP hD t ht hW⟩, hS.F ht⟩) hS.2.2 dX1_areRivals_44
  case b45 =>
    intro b2 μ h H locs ls hP hD hS hl
    obtain ⟨y10, ey10⟩ : ∃ y : Int32, y = b2 + 1 := ⟨_, rfl⟩
    have h := h y10 ey10
    refine lv_iinc (v := y10) (lv' := [(2, .int y10), (0, .ref (ad p0)), (1, .ref (ad p1))]) hx hb dX1_areRivals_45 hl (k := 2) rfl (by rw [ey10]; rfl) (by decide) rfl (fun ls hl => ?_)
    refine lv_goto (tgt := 2) hx hb dX1_areRivals_48 (by decide) ?_
    exact h _ _ _ hP hD hS (lv_sub hl [1, 2, 0] rfl)
set_option maxHeartbeats 4000000 in
set_option maxRecDepth 100000 in
theorem c_X1_findRivals (l : Launch) (D : va_G) (cc : Nat → ClassId) (A : Nat → Prop) (ad : Nat → Nat) (rs : va_W) (O1 : Nat) (hO1 : isSetup O1) (μ : Mem) (K : Mem → Prop) (h : f_X1_findRivals O1 μ K) : Met l yX1_findRivals wsX1_findRivals ({ frames := 1, cells := 0, slots := 0, locals := 23 }) (va_Pc [.ref (ad 49), .ref (ad O1)] (PW shX 67 D cc A ad rs μ)) (va_Qv K (PW shX 67 D cc A ad rs) A) 0 0 A := by
  refine Met.ofW (cc := cX1_findRivals) (maxL := 4) (ret := none) (by decide) rfl ?_
  intro p e s m args below meth c s₁ BB hml hv
  obtain ⟨rfl, hP, hK, hD, hN⟩ := hv
  have hx := BB.exec
  have hb := BB.bytes
  have hr := BB.returns
  have hts := atoms_spec (ws := wsX1_findRivals) BB.pre
  have hown : s.vm.findClass RX1 = some m.cls := findClass_of_methodNamed BB.named
  have hlocks := BB.notSynchronized
  have hi_X2 : ∀ w ∈ u_ws RX2 TX2 7, w ∈ wsX1_findRivals := by decide +kernel
  have hi_X1 : ∀ w ∈ u_ws RX1 TX1 7, w ∈ wsX1_findRivals := by decide +kernel
  have hw0 := hts (.fieldLink RX1 68 "FeatureClashes$Setup" "featureCount" "I") (by decide +kernel)
  have hw1 := hts (.fieldLink RX1 38 "FeatureClashes$Outcomes" "rivals" "[I") (by decide +kernel)
  have hw2 := hts (.fieldLink RX1 71 "FeatureClashes$Setup" "edits" "[[I") (by decide +kernel)
  have hS : va_S A s.heap s.heap [] := va_S.rf
  have hl := lv_entry ([.ref (ad 49), .ref (ad O1)]) (n := 4) (Nat.le_of_ble_eq_true rfl)
  rw [lg_entry_eq]
  generalize (lg_sl ([.ref (ad 49), .ref (ad O1)]) ++ List.replicate (4 - (lg_sl ([.ref (ad 49), .ref (ad O1)])).length) Slot.unset).toArray = ls at hl ⊢
  have hl : lv_has ls 4 [(0, .ref (ad 49)), (1, .ref (ad O1))] := hl
  unfold f_X1_findRivals at h
  refine (fun h => ?main) (h (fun b2 μ => ∀ (H1 : Heap) (locs : List Loc) (ls : Array Slot), va_P D vwCl (wW shX 67 cc ad μ ++ rs) H1 → va_D A (wW shX 67 cc ad μ ++ rs) → va_S A s.heap H1 locs → lv_has ls 4 [(0, .ref (ad 49)), (1, .ref (ad O1)), (2, .int b2)] → W p l e (headSpec wsX1_findRivals ({ frames := 1, cells := 0, slots := 0, locals := 23 })).room s m ([.ref (ad 49), .ref (ad O1)] : List Value).toArray below meth c H1 locs 0 0 (MQ below (va_Qv K (PW shX 67 D cc A ad rs) A) ([.ref (ad 49), .ref (ad O1)] : List Value).toArray s 0 0 A) (F0 m 2 ls ([]))) (fun b2 b3 μ => ∀ (H1 : Heap) (locs : List Loc) (ls : Array Slot), va_P D vwCl (wW shX 67 cc ad μ ++ rs) H1 → va_D A (wW shX 67 cc ad μ ++ rs) → va_S A s.heap H1 locs → lv_has ls 4 [(0, .ref (ad 49)), (1, .ref (ad O1)), (2, .int b2), (3, .int b3)] → W p l e (headSpec wsX1_findRivals ({ frames := 1, cells := 0, slots := 0, locals := 23 })).room s m ([.ref (ad 49), .ref (ad O1)] : List Value).toArray below meth c H1 locs 0 0 (MQ below (va_Qv K (PW shX 67 D cc A ad rs) A) ([.ref (ad 49), .ref (ad O1)] : List Value).toArray s 0 0 A) (F0 m 19 ls ([]))) (fun b2 b3 μ => ∀ (H1 : Heap) (locs : List Loc) (ls : Array Slot), va_P D vwCl (wW shX 67 cc ad μ ++ rs) H1 → va_D A (wW shX 67 cc ad μ ++ rs) → va_S A s.heap H1 locs → lv_has ls 4 [(0, .ref (ad 49)), (1, .ref (ad O1)), (2, .int b2), (3, .int b3)] → W p l e (headSpec wsX1_findRivals ({ frames := 1, cells := 0, slots := 0, locals := 23 })).room s m ([.ref (ad 49), .ref (ad O1)] : List Value).toArray below meth c H1 locs 0 0 (MQ below (va_Qv K (PW shX 67 D cc A ad rs) A) ([.ref (ad 49), .ref (ad O1)] : List Value).toArray s 0 0 A) (F0 m 57 ls ([]))) ?b2 ?b19 ?b57)
  case main =>
      refine lv_iconst (v := 0) hx hb dX1_findRivals_0 (by decide) ?_
      refine lv_istore_n (lv' := [(2, .int 0), (0, .ref (ad 49)), (1, .ref (ad O1))]) hx hb dX1_findRivals_1 rfl hl (by decide) rfl (fun ls hl => ?_)
      exact h _ _ _ hP hD hS (lv_sub hl [1, 2, 0] rfl)
  case b2 =>
    intro b2 μ h H locs ls hP hD hS hl
    refine lv_iload_n hx hb dX1_findRivals_2 rfl (lv_at hl 2 rfl) ?_
    refine lv_aload_n hx hb dX1_findRivals_3 rfl (lv_at hl 1 rfl) ?_
    refine zw_get (C := RX2) (T := TX2) (M := 7) (v := .int (μ.1 O1 2)) hx hb hts hi_X2 hown hK hP (oS hO1) rfl 2 (by decide) hw0 rfl dX1_findRivals_4 ?_
    refine lv_icmp_ge (tgt := 69) hx hb dX1_findRivals_7 (by decide) (fun c1 => ?_) (fun c1 => ?_)
    · have h := h.1 c1
      exact W.vret hx hb hr (fun t ht hW => ⟨⟨μ, rfl, h, PW.to hK hN hP hD t ht hW⟩, hS.F ht⟩) hS.2.2 dX1_findRivals_69
    · have h := h.2 c1
      refine lv_aload_n hx hb dX1_findRivals_10 rfl (lv_at hl 0 rfl) ?_
      refine zw_get (C := RX1) (T := TX1) (M := 7) (v := .ref (ad 66)) hx hb hts hi_X1 hown hK hP kX_49 rfl 6 (by decide) hw1 rfl dX1_findRivals_11 ?_
      refine lv_iload_n hx hb dX1_findRivals_14 rfl (lv_at hl 2 rfl) ?_
      refine lv_iconst (v := 0) hx hb dX1_findRivals_15 (by decide) ?_
      obtain ⟨hi2, h⟩ := h
      refine zw_iast hx hb hK hP hD hS kX_66 hi2 dX1_findRivals_16 (fun μ3 H locs eμ3 hP hD hS => ?_)
      have h := h μ3 eμ3
      refine lv_iconst (v := 0) hx hb dX1_findRivals_17 (by decide) ?_
      refine lv_istore_n (lv' := [(3, .int 0), (0, .ref (ad 49)), (1, .ref (ad O1)), (2, .int b2)]) hx hb dX1_findRivals_18 rfl hl (by decide) rfl (fun ls hl => ?_)
      exact h _ _ _ hP hD hS (lv_sub hl [1, 2, 3, 0] rfl)
  case b19 =>
    intro b2 b3 μ h H locs ls hP hD hS hl
    refine lv_iload_n hx hb dX1_findRivals_19 rfl (lv_at hl 3 rfl) ?_
    refine lv_aload_n hx hb dX1_findRivals_20 rfl (lv_at hl 1 rfl) ?_
    refine zw_get (C := RX2) (T := TX2) (M := 7) (v := .int (μ.1 O1 2)) hx hb hts hi_X2 hown hK hP (oS hO1) rfl 2 (by decide) hw0 rfl dX1_findRivals_21 ?_
    refine lv_icmp_ge (tgt := 63) hx hb dX1_findRivals_24 (by decide) (fun c4 => ?_) (fun c4 => ?_)
    · have h := h.1 c4
      obtain ⟨y5, ey5⟩ : ∃ y : Int32, y = b2 + 1 := ⟨_, rfl⟩
      have h := h y5 ey5
      refine lv_iinc (v := y5) (lv' := [(2, .int y5), (0, .ref (ad 49)), (1, .ref (ad O1)), (3, .int b3)]) hx hb dX1_findRivals_63 hl (k := 2) rfl (by rw [ey5]; rfl) (by decide) rfl (fun ls hl => ?_)
      refine lv_goto (tgt := 2) hx hb dX1_findRivals_66 (by decide) ?_
      exact h _ _ _ hP hD hS (lv_sub hl [1, 2, 0] rfl)
    · have h := h.2 c4
      refine lv_aload_n hx hb dX1_findRivals_27 rfl (lv_at hl 1 rfl) ?_
      refine zw_get (C := RX2) (T := TX2) (M := 7) (v := .ref (ad (O1+2))) hx hb hts hi_X2 hown hK hP (oS hO1) rfl 5 (by decide) hw2 rfl dX1_findRivals_28 ?_
      refine lv_iload_n hx hb dX1_findRivals_31 rfl (lv_at hl 2 rfl) ?_
      obtain ⟨hi6, h⟩ := h
      refine zw_aalI hx hb hK hP (rS hO1) hi6 dX1_findRivals_32 ?_
      refine W.eq (g2 := F0 m 33 ls ([.ref (ad ((O1+3) + (b2 : Int32).toNatClampNeg))])) rfl ?_
      refine lv_aload_n hx hb dX1_findRivals_33 rfl (lv_at hl 1 rfl) ?_
      refine zw_get (C := RX2) (T := TX2) (M := 7) (v := .ref (ad (O1+2))) hx hb hts hi_X2 hown hK hP (oS hO1) rfl 5 (by decide) hw2 rfl dX1_findRivals_34 ?_
      refine lv_iload_n hx hb dX1_findRivals_37 rfl (lv_at hl 3 rfl) ?_
      obtain ⟨hi7, h⟩ := h
      refine zw_aalI hx hb hK hP (rS hO1) hi7 dX1_findRivals_38 ?_
      refine W.eq (g2 := F0 m 39 ls ([.ref (ad ((O1+3) + (b3 : Int32).toNatClampNeg)), .ref (ad ((O1+3) + (b2 : Int32).toNatClampNeg))])) rfl ?_
      refine zc_i (zc_runS (As := [.ref (ad ((O1+3) + (b2 : Int32).toNatClampNeg)), .ref (ad ((O1+3) + (b3 : Int32).toNatClampNeg))]) (rest := []) ⟨hx, hb, hml, hown, hts⟩ (c_X1_areRivals l D cc A ad rs ((O1+3) + (b2 : Int32).toNatClampNeg) (iSr hO1 (zw_lt hi6)) ((O1+3) + (b3 : Int32).toNatClampNeg) (iSr hO1 (zw_lt hi7)) μ _ h) (va_cwS 2 hts gX1_findRivals_X1_areRivals rfl rfl rfl (by decide +kernel) ⟨Nat.le_of_ble_eq_true rfl, Nat.le_of_ble_eq_true rfl⟩) hK hN hP hD rfl hl.1 rfl (Nat.le_of_ble_eq_true rfl) dX1_findRivals_39 ⟨Nat.zero_le _, Nat.zero_le _⟩) hS (fun r8 μ9 H locs h hP hD hS => ?_)
      refine lv_if_eq (tgt := 57) hx hb dX1_findRivals_42 (by decide) (fun c10 => ?_) (fun c10 => ?_)
      · have h := h.1 c10
        exact h _ _ _ hP hD hS (lv_sub hl [0, 1, 2, 3] rfl)
      · have h := h.2 c10
        refine lv_aload_n hx hb dX1_findRivals_45 rfl (lv_at hl 0 rfl) ?_
        refine zw_get (C := RX1) (T := TX1) (M := 7) (v := .ref (ad 66)) hx hb hts hi_X1 hown hK hP kX_49 rfl 6 (by decide) hw1 rfl dX1_findRivals_46 ?_
        refine lv_iload_n hx hb dX1_findRivals_49 rfl (lv_at hl 2 rfl) ?_
        refine lv_dup2_11 hx hb dX1_findRivals_50 rfl rfl ?_
        obtain ⟨hi11, h⟩ := h
        refine zw_iald hx hb hK hP kX_66 hi11 dX1_findRivals_51 ?_
        refine lv_iconst (v := 1) hx hb dX1_findRivals_52 (by decide) ?_
        refine lv_iload_n hx hb dX1_findRivals_53 rfl (lv_at hl 3 rfl) ?_
        refine lv_ishl hx hb dX1_findRivals_54 ?_
        refine lv_ior hx hb dX1_findRivals_55 ?_
        obtain ⟨hi12, h⟩ := h
        refine zw_iast hx hb hK hP hD hS kX_66 hi12 dX1_findRivals_56 (fun μ13 H locs eμ13 hP hD hS => ?_)
        have h := h μ13 eμ13
        exact h _ _ _ hP hD hS (lv_sub hl [0, 1, 2, 3] rfl)
  case b57 =>
    intro b2 b3 μ h H locs ls hP hD hS hl
    obtain ⟨y14, ey14⟩ : ∃ y : Int32, y = b3 + 1 := ⟨_, rfl⟩
    have h := h y14 ey14
    refine lv_iinc (v := y14) (lv' := [(3, .int y14), (0, .ref (ad 49)), (1, .ref (ad O1)), (2, .int b2)]) hx hb dX1_findRivals_57 hl (k := 3) rfl (by rw [ey14]; rfl) (by decide) rfl (fun ls hl => ?_)
    refine lv_goto (tgt := 19) hx hb dX1_findRivals_60 (by decide) ?_
    exact h _ _ _ hP hD hS (lv_sub hl [1, 2, 3, 0] rfl)
set_option maxHeartbeats 4000000 in
set_option maxRecDepth 100000 in
theorem c_X5_copyRow (l : Launch) (D : va_G) (cc : Nat → ClassId) (A : Nat → Prop) (ad : Nat → Nat) (rs : va_W) (p0 : Nat) (hp0 : isI shX 67 p0 32) (p1 : Nat) (hp1 : isI shX 67 p1 32) (μ : Mem) (K : Mem → Prop) (h : f_X5_copyRow p0 p1 μ K) : Met l yX5_copyRow wsX5_copyRow ({ frames := 1, cells := 0, slots := 0, locals := 60 }) (va_Pc [.ref (ad p0), .ref (ad p1)] (PW shX 67 D cc A ad rs μ)) (va_Qv K (PW shX 67 D cc A ad rs) A) 0 0 A := by
  refine Met.ofW (cc := cX5_copyRow) (maxL := 2) (ret := none) (by decide) rfl ?_
  intro p e s m args below meth c s₁ BB hml hv
  obtain ⟨rfl, hP, hK, hD, hN⟩ := hv
  have hx := BB.exec
  have hb := BB.bytes
  have hr := BB.returns
  have hts := atoms_spec (ws := wsX5_copyRow) BB.pre
  have hown : s.vm.findClass RX5 = some m.cls := findClass_of_methodNamed BB.named
  have hlocks := BB.notSynchronized
  have hw0 := hts (.methodLink RX5 277 arraycopyName) (by decide +kernel)
  have hw1 := hts (.native arraycopyName) (by decide +kernel)
  have hw2 := hts (.static arraycopyName) (by decide +kernel)
  have hw3 := hts (.initialized "java/lang/System") (by decide +kernel)
  have hS : va_S A s.heap s.heap [] := va_S.rf
  have hl := lv_entry ([.ref (ad p0), .ref (ad p1)]) (n := 2) (Nat.le_of_ble_eq_true rfl)
  rw [lg_entry_eq]
  generalize (lg_sl ([.ref (ad p0), .ref (ad p1)]) ++ List.replicate (2 - (lg_sl ([.ref (ad p0), .ref (ad p1)])).length) Slot.unset).toArray = ls at hl ⊢
  have hl : lv_has ls 2 [(0, .ref (ad p0)), (1, .ref (ad p1))] := hl
  unfold f_X5_copyRow at h
  refine lv_aload_n hx hb dX5_copyRow_0 rfl (lv_at hl 0 rfl) ?_
  refine lv_iconst (v := 0) hx hb dX5_copyRow_1 (by decide) ?_
  refine lv_aload_n hx hb dX5_copyRow_2 rfl (lv_at hl 1 rfl) ?_
  refine lv_iconst (v := 0) hx hb dX5_copyRow_3 (by decide) ?_
  refine lv_bipush (v := 32) hx hb dX5_copyRow_4 (by decide) ?_
  obtain ⟨hc1, h⟩ := h
  refine zw_copyi hx hb (hml.trans hl.1.symm) hown hw0 hw1 hw2 hw3 hK hP hD hS hp0 hp1 hc1 (Nat.le_of_ble_eq_true rfl) (Nat.le_of_ble_eq_true rfl) dX5_copyRow_6 (fun μ2 H locs eμ2 hP hD hS => ?_)
  have h := h μ2 eμ2
  exact W.vret hx hb hr (fun t ht hW => ⟨⟨μ2, rfl, h, PW.to hK hN hP hD t ht hW⟩, hS.F ht⟩) hS.2.2 dX5_copyRow_9
set_option maxHeartbeats 4000000 in
set_option maxRecDepth 100000 in
theorem c_J7_fill_53178 (l : Launch) (D : va_G) (cc : Nat → ClassId) (A : Nat → Prop) (ad : Nat → Nat) (rs : va_W) (p0 : Nat) (n0 : Nat) (hp0 : isI shX 67 p0 n0) (x1 : Int32) (μ : Mem) (K : Mem → Prop) (h : f_J7_fill_53178 p0 n0 x1 μ K) : Met l yJ7_fill_53178 wsJ7_fill_53178 ({ frames := 0, cells := 0, slots := 0, locals := 0 }) (va_Pc [.ref (ad p0), .int x1] (PW shX 67 D cc A ad rs μ)) (va_Qv K (PW shX 67 D cc A ad rs) A) 0 0 A := by
  refine Met.ofW (cc := cJ7_fill_53178) (maxL := 4) (ret := none) (by decide) rfl ?_
  intro p e s m args below meth c s₁ BB hml hv
  obtain ⟨rfl, hP, hK, hD, hN⟩ := hv
  have hx := BB.exec
  have hb := BB.bytes
  have hr := BB.returns
  have hts := atoms_spec (ws := wsJ7_fill_53178) BB.pre
  have hown : s.vm.findClass RJ7 = some m.cls := findClass_of_methodNamed BB.named
  have hlocks := BB.notSynchronized
  have hS : va_S A s.heap s.heap [] := va_S.rf
  have hl := lv_entry ([.ref (ad p0), .int x1]) (n := 4) (Nat.le_of_ble_eq_true rfl)
  rw [lg_entry_eq]
  generalize (lg_sl ([.ref (ad p0), .int x1]) ++ List.replicate (4 - (lg_sl ([.ref (ad p0), .int x1])).length) Slot.unset).toArray = ls at hl ⊢
  have hl : lv_has ls 4 [(0, .ref (ad p0)), (1, .int x1)] := hl
  unfold f_J7_fill_53178 at h
  refine (fun h => ?main) (h (fun b1 b2 b3 μ => ∀ (H1 : Heap) (locs : List Loc) (ls : Array Slot), va_P D vwCl (wW shX 67 cc ad μ ++ rs) H1 → va_D A (wW shX 67 cc ad μ ++ rs) → va_S A s.heap H1 locs → lv_has ls 4 [(0, .ref (ad p0)), (1, .int b1), (2, .int b2), (3, .int b3)] → W p l e (headSpec wsJ7_fill_53178 ({ frames := 0, cells := 0, slots := 0, locals := 0 })).room s m ([.ref (ad p0), .int x1] : List Value).toArray below meth c H1 locs 0 0 (MQ below (va_Qv K (PW shX 67 D cc A ad rs) A) ([.ref (ad p0), .int x1] : List Value).toArray s 0 0 A) (F0 m 5 ls ([]))) ?b5)
  case main =>
      refine lv_iconst (v := 0) hx hb dJ7_fill_53178_0 (by decide) ?_
      refine lv_istore_n (lv' := [(2, .int 0), (0, .ref (ad p0)), (1, .int x1)]) hx hb dJ7_fill_53178_1 rfl hl (by decide) rfl (fun ls hl => ?_)
      refine lv_aload_n hx hb dJ7_fill_53178_2 rfl (lv_at hl 1 rfl) ?_
      refine zw_alen hx hb hK hP hp0 dJ7_fill_53178_3 ?_
      refine lv_topi (fun y1 ey1 => ?_)
      have h := h y1 ey1
      refine lv_istore_n (lv' := [(3, .int y1), (2, .int 0), (0, .ref (ad p0)), (1, .int x1)]) hx hb dJ7_fill_53178_4 rfl hl (by decide) rfl (fun ls hl => ?_)
      exact h _ _ _ hP hD hS (lv_sub hl [2, 3, 1, 0] rfl)
  case b5 =>
    intro b1 b2 b3 μ h H locs ls hP hD hS hl
    refine lv_iload_n hx hb dJ7_fill_53178_5 rfl (lv_at hl 2 rfl) ?_
    refine lv_iload_n hx hb dJ7_fill_53178_6 rfl (lv_at hl 3 rfl) ?_
    refine lv_icmp_ge (tgt := 20) hx hb dJ7_fill_53178_7 (by decide) (fun c2 => ?_) (fun c2 => ?_)
    · have h := h.1 c2
      exact W.vret hx hb hr (fun t ht hW => ⟨⟨μ, rfl, h, PW.to hK hN hP hD t ht hW⟩, hS.F ht⟩) hS.2.2 dJ7_fill_53178_20
    · have h := h.2 c2
      refine lv_aload_n hx hb dJ7_fill_53178_10 rfl (lv_at hl 0 rfl) ?_
      refine lv_iload_n hx hb dJ7_fill_53178_11 rfl (lv_at hl 2 rfl) ?_
      refine lv_iload_n hx hb dJ7_fill_53178_12 rfl (lv_at hl 1 rfl) ?_
      obtain ⟨hi3, h⟩ := h
      refine zw_iast hx hb hK hP hD hS hp0 hi3 dJ7_fill_53178_13 (fun μ4 H locs eμ4 hP hD hS => ?_)
      have h := h μ4 eμ4
      obtain ⟨y5, ey5⟩ : ∃ y : Int32, y = b2 + 1 := ⟨_, rfl⟩
      have h := h y5 ey5
      refine lv_iinc (v := y5) (lv' := [(2, .int y5), (0, .ref (ad p0)), (1, .int b1), (3, .int b3)]) hx hb dJ7_fill_53178_14 hl (k := 2) rfl (by rw [ey5]; rfl) (by decide) rfl (fun ls hl => ?_)
      refine lv_goto (tgt := 5) hx hb dJ7_fill_53178_17 (by decide) ?_
      exact h _ _ _ hP hD hS (lv_sub hl [1, 2, 0, 3] rfl)
set_option maxHeartbeats 4000000 in
set_option maxRecDepth 100000 in
theorem c_X5_arrowOf (l : Launch) (D : va_G) (cc : Nat → ClassId) (A : Nat → Prop) (ad : Nat → Nat) (rs : va_W) (x0 : Int32) (x1 : Int32) (μ : Mem) (K : Int32 → Mem → Prop) (h : f_X5_arrowOf x0 x1 μ K) : Met l yX5_arrowOf wsX5_arrowOf ({ frames := 0, cells := 0, slots := 0, locals := 0 }) (va_Pc [.int x0, .int x1] (PW shX 67 D cc A ad rs μ)) (va_Qi K (PW shX 67 D cc A ad rs) A) 0 0 A := by
  refine Met.ofW (cc := cX5_arrowOf) (maxL := 2) (ret := (some .int)) (by decide) rfl ?_
  intro p e s m args below meth c s₁ BB hml hv
  obtain ⟨rfl, hP, hK, hD, hN⟩ := hv
  have hx := BB.exec
  have hb := BB.bytes
  have hr := BB.returns
  have hts := atoms_spec (ws := wsX5_arrowOf) BB.pre
  have hown : s.vm.findClass RX5 = some m.cls := findClass_of_methodNamed BB.named
  have hlocks := BB.notSynchronized
  have hS : va_S A s.heap s.heap [] := va_S.rf
  have hl := lv_entry ([.int x0, .int x1]) (n := 2) (Nat.le_of_ble_eq_true rfl)
  rw [lg_entry_eq]
  generalize (lg_sl ([.int x0, .int x1]) ++ List.replicate (2 - (lg_sl ([.int x0, .int x1])).length) Slot.unset).toArray = ls at hl ⊢
  have hl : lv_has ls 2 [(0, .int x0), (1, .int x1)] := hl
  unfold f_X5_arrowOf at h
  refine lv_bipush (v := 10) hx hb dX5_arrowOf_0 (by decide) ?_
  refine lv_iload_n hx hb dX5_arrowOf_2 rfl (lv_at hl 0 rfl) ?_
  refine lv_imul hx hb dX5_arrowOf_3 ?_
  refine lv_iload_n hx hb dX5_arrowOf_4 rfl (lv_at hl 1 rfl) ?_
  refine lv_iadd hx hb dX5_arrowOf_5 ?_
  exact W.iret (v := (10 * x0) + x1) hx hb hr (fun t ht hW => ⟨⟨(10 * x0) + x1, μ, rfl, h, PW.to hK hN hP hD t ht hW⟩, hS.F ht⟩) hS.2.2 dX5_arrowOf_6
set_option maxHeartbeats 4000000 in
set_option maxRecDepth 100000 in
theorem c_X3_signatureOf (l : Launch) (D : va_G) (cc : Nat → ClassId) (A : Nat → Prop) (ad : Nat → Nat) (rs : va_W) (p0 : Nat) (hp0 : isI shX 67 p0 32) (x1 : Int32) (x2 : Int32) (p3 : Nat) (hp3 : isI shX 67 p3 8) (μ : Mem) (K : Int32 → Mem → Prop) (h : f_X3_signatureOf p0 x1 x2 p3 μ K) : Met l yX3_signatureOf wsX3_signatureOf ({ frames := 1, cells := 0, slots := 0, locals := 21 }) (va_Pc [.ref (ad p0), .int x1, .int x2, .ref (ad p3)] (PW shX 67 D cc A ad rs μ)) (va_Qi K (PW shX 67 D cc A ad rs) A) 0 0 A := by
  refine Met.ofW (cc := cX3_signatureOf) (maxL := 8) (ret := (some .int)) (by decide) rfl ?_
  intro p e s m args below meth c s₁ BB hml hv
  obtain ⟨rfl, hP, hK, hD, hN⟩ := hv
  have hx := BB.exec
  have hb := BB.bytes
  have hr := BB.returns
  have hts := atoms_spec (ws := wsX3_signatureOf) BB.pre
  have hown : s.vm.findClass RX3 = some m.cls := findClass_of_methodNamed BB.named
  have hlocks := BB.notSynchronized
  have hw0 := hts (.initialized RX5) (by decide +kernel)
  have hw1 := hts (.static yX5_cellOf) (by decide +kernel)
  have hw2 := hts (.static yX5_targetOf) (by decide +kernel)
  have hw3 := hts (.static yX5_outputOf) (by decide +kernel)
  have hw4 := hts (.static yX5_arrowOf) (by decide +kernel)
  have hS : va_S A s.heap s.heap [] := va_S.rf
  have hl := lv_entry ([.ref (ad p0), .int x1, .int x2, .ref (ad p3)]) (n := 8) (Nat.le_of_ble_eq_true rfl)
  rw [lg_entry_eq]
  generalize (lg_sl ([.ref (ad p0), .int x1, .int x2, .ref (ad p3)]) ++ List.replicate (8 - (lg_sl ([.ref (ad p0), .int x1, .int x2, .ref (ad p3)])).length) Slot.unset).toArray = ls at hl ⊢
  have hl : lv_has ls 8 [(0, .ref (ad p0)), (1, .int x1), (2, .int x2), (3, .ref (ad p3))] := hl
  unfold f_X3_signatureOf at h
  refine (fun h => ?main) (h (fun b1 b2 b4 b5 μ => ∀ (H1 : Heap) (locs : List Loc) (ls : Array Slot), va_P D vwCl (wW shX 67 cc ad μ ++ rs) H1 → va_D A (wW shX 67 cc ad μ ++ rs) → va_S A s.heap H1 locs → lv_has ls 8 [(0, .ref (ad p0)), (1, .int b1), (2, .int b2), (3, .ref (ad p3)), (4, .int b4), (5, .int b5)] → W p l e (headSpec wsX3_signatureOf ({ frames := 1, cells := 0, slots := 0, locals := 21 })).room s m ([.ref (ad p0), .int x1, .int x2, .ref (ad p3)] : List Value).toArray below meth c H1 locs 0 0 (MQ below (va_Qi K (PW shX 67 D cc A ad rs) A) ([.ref (ad p0), .int x1, .int x2, .ref (ad p3)] : List Value).toArray s 0 0 A) (F0 m 6 ls ([]))) (fun b1 b2 b4 b5 b7 μ => ∀ (H1 : Heap) (locs : List Loc) (ls : Array Slot), va_P D vwCl (wW shX 67 cc ad μ ++ rs) H1 → va_D A (wW shX 67 cc ad μ ++ rs) → va_S A s.heap H1 locs → lv_has ls 8 [(0, .ref (ad p0)), (1, .int b1), (2, .int b2), (3, .ref (ad p3)), (4, .int b4), (5, .int b5), (7, .int b7)] → W p l e (headSpec wsX3_signatureOf ({ frames := 1, cells := 0, slots := 0, locals := 21 })).room s m ([.ref (ad p0), .int x1, .int x2, .ref (ad p3)] : List Value).toArray below meth c H1 locs 0 0 (MQ below (va_Qi K (PW shX 67 D cc A ad rs) A) ([.ref (ad p0), .int x1, .int x2, .ref (ad p3)] : List Value).toArray s 0 0 A) (F0 m 50 ls ([]))) ?b6 ?b50)
  case main =>
      refine lv_iconst (v := 0) hx hb dX3_signatureOf_0 (by decide) ?_
      refine lv_istore (lv' := [(4, .int 0), (0, .ref (ad p0)), (1, .int x1), (2, .int x2), (3, .ref (ad p3))]) hx hb dX3_signatureOf_1 hl (by decide) rfl (fun ls hl => ?_)
      refine lv_iconst (v := 0) hx hb dX3_signatureOf_3 (by decide) ?_
      refine lv_istore (lv' := [(5, .int 0), (4, .int 0), (0, .ref (ad p0)), (1, .int x1), (2, .int x2), (3, .ref (ad p3))]) hx hb dX3_signatureOf_4 hl (by decide) rfl (fun ls hl => ?_)
      exact h _ _ _ hP hD hS (lv_sub hl [2, 3, 4, 5, 1, 0] rfl)
  case b6 =>
    intro b1 b2 b4 b5 μ h H locs ls hP hD hS hl
    refine lv_iload hx hb dX3_signatureOf_6 (lv_at hl 5 rfl) ?_
    refine lv_iload_n hx hb dX3_signatureOf_8 rfl (lv_at hl 2 rfl) ?_
    refine lv_icmp_ge (tgt := 66) hx hb dX3_signatureOf_9 (by decide) (fun c1 => ?_) (fun c1 => ?_)
    · have h := h.1 c1
      refine lv_iload hx hb dX3_signatureOf_66 (lv_at hl 4 rfl) ?_
      exact W.iret (v := b4) hx hb hr (fun t ht hW => ⟨⟨b4, μ, rfl, h, PW.to hK hN hP hD t ht hW⟩, hS.F ht⟩) hS.2.2 dX3_signatureOf_68
    · have h := h.2 c1
      refine lv_aload_n hx hb dX3_signatureOf_12 rfl (lv_at hl 0 rfl) ?_
      refine lv_iload_n hx hb dX3_signatureOf_13 rfl (lv_at hl 1 rfl) ?_
      refine lv_iload hx hb dX3_signatureOf_14 (lv_at hl 5 rfl) ?_
      refine zc_i (zc_runSN (As := [.int b1, .int b5]) (rest := [.ref (ad p0)]) ⟨hx, hb, hml, hown, hts⟩ (c_X5_cellOf l D cc A ad rs b1 b5 μ _ h) ⟨va_cnB (host := "FeatureClashes") 2 hts gX3_signatureOf_X5_cellOf_n56 rfl rfl rfl (hN 6 _ rfl) hw0 (by decide +kernel) ⟨Nat.le_of_ble_eq_true rfl, Nat.le_of_ble_eq_true rfl⟩, hw1, trivial⟩ hK hN hP hD rfl hl.1 rfl (Nat.le_of_ble_eq_true rfl) dX3_signatureOf_16 ⟨Nat.zero_le _, Nat.zero_le _⟩) hS (fun r2 μ3 H locs h hP hD hS => ?_)
      obtain ⟨hi4, h⟩ := h
      refine zw_iald hx hb hK hP hp0 hi4 dX3_signatureOf_19 ?_
      refine lv_topi (fun y5 ey5 => ?_)
      have h := h y5 ey5
      refine lv_istore (lv' := [(6, .int y5), (0, .ref (ad p0)), (1, .int b1), (2, .int b2), (3, .ref (ad p3)), (4, .int b4), (5, .int b5)]) hx hb dX3_signatureOf_20 hl (by decide) rfl (fun ls hl => ?_)
      refine lv_iconst (v := 0) hx hb dX3_signatureOf_22 (by decide) ?_
      refine lv_istore (lv' := [(7, .int 0), (6, .int y5), (0, .ref (ad p0)), (1, .int b1), (2, .int b2), (3, .ref (ad p3)), (4, .int b4), (5, .int b5)]) hx hb dX3_signatureOf_23 hl (by decide) rfl (fun ls hl => ?_)
      refine lv_iload hx hb dX3_signatureOf_25 (lv_at hl 1 rfl) ?_
      refine lv_iconst (v := (-1)) hx hb dX3_signatureOf_27 (by decide) ?_
      refine lv_icmp_eq (tgt := 50) hx hb dX3_signatureOf_28 (by decide) (fun c6 => ?_) (fun c6 => ?_)
      · have h := h.1 c6
        exact h _ _ _ hP hD hS (lv_sub hl [2, 3, 4, 5, 6, 7, 0] rfl)
      · have h := h.2 c6
        refine lv_iconst (v := 1) hx hb dX3_signatureOf_31 (by decide) ?_
        refine lv_aload_n hx hb dX3_signatureOf_32 rfl (lv_at hl 5 rfl) ?_
        refine lv_iload hx hb dX3_signatureOf_33 (lv_at hl 1 rfl) ?_
        refine zc_i (zc_runSN (As := [.int y5]) (rest := [.ref (ad p3), .int 1]) ⟨hx, hb, hml, hown, hts⟩ (c_X5_targetOf l D cc A ad rs y5 μ3 _ h) ⟨va_cnB (host := "FeatureClashes") 1 hts gX3_signatureOf_X5_targetOf_n60 rfl rfl rfl (hN 5 _ rfl) hw0 (by decide +kernel) ⟨Nat.le_of_ble_eq_true rfl, Nat.le_of_ble_eq_true rfl⟩, hw2, trivial⟩ hK hN hP hD rfl hl.1 rfl (Nat.le_of_ble_eq_true rfl) dX3_signatureOf_35 ⟨Nat.zero_le _, Nat.zero_le _⟩) hS (fun r7 μ8 H locs h hP hD hS => ?_)
        obtain ⟨hi9, h⟩ := h
        refine zw_iald hx hb hK hP hp3 hi9 dX3_signatureOf_38 ?_
        refine lv_iload hx hb dX3_signatureOf_39 (lv_at hl 1 rfl) ?_
        refine zc_i (zc_runSN (As := [.int y5]) (rest := [.int (μ8.1 p3 (r7 : Int32).toNatClampNeg), .int 1]) ⟨hx, hb, hml, hown, hts⟩ (c_X5_outputOf l D cc A ad rs y5 μ8 _ h) ⟨va_cnB (host := "FeatureClashes") 1 hts gX3_signatureOf_X5_outputOf_n63 rfl rfl rfl (hN 4 _ rfl) hw0 (by decide +kernel) ⟨Nat.le_of_ble_eq_true rfl, Nat.le_of_ble_eq_true rfl⟩, hw3, trivial⟩ hK hN hP hD rfl hl.1 rfl (Nat.le_of_ble_eq_true rfl) dX3_signatureOf_41 ⟨Nat.zero_le _, Nat.zero_le _⟩) hS (fun r10 μ11 H locs h hP hD hS => ?_)
        refine zc_i (zc_runSN (As := [.int (μ8.1 p3 (r7 : Int32).toNatClampNeg), .int r10]) (rest := [.int 1]) ⟨hx, hb, hml, hown, hts⟩ (c_X5_arrowOf l D cc A ad rs (μ8.1 p3 (r7 : Int32).toNatClampNeg) r10 μ11 _ h) ⟨va_cnB (host := "FeatureClashes") 2 hts gX3_signatureOf_X5_arrowOf_n66 rfl rfl rfl (hN 3 _ rfl) hw0 (by decide +kernel) ⟨Nat.le_of_ble_eq_true rfl, Nat.le_of_ble_eq_true rfl⟩, hw4, trivial⟩ hK hN hP hD rfl hl.1 rfl (Nat.le_of_ble_eq_true rfl) dX3_signatureOf_44 ⟨Nat.zero_le _, Nat.zero_le _⟩) hS (fun r12 μ13 H locs h hP hD hS => ?_)
        refine lv_iadd hx hb dX3_signatureOf_47 ?_
        refine lv_topi (fun y14 ey14 => ?_)
        have h := h y14 ey14
        refine lv_istore (lv' := [(7, .int y14), (6, .int y5), (0, .ref (ad p0)), (1, .int b1), (2, .int b2), (3, .ref (ad p3)), (4, .int b4), (5, .int b5)]) hx hb dX3_signatureOf_48 hl (by decide) rfl (fun ls hl => ?_)
        exact h _ _ _ hP hD hS (lv_sub hl [2, 3, 4, 5, 6, 7, 0] rfl)
  case b50 =>
    intro b1 b2 b4 b5 b7 μ h H locs ls hP hD hS hl
    refine lv_iload hx hb dX3_signatureOf_50 (lv_at hl 4 rfl) ?_
    refine lv_bipush (v := 7) hx hb dX3_signatureOf_52 (by decide) ?_
    refine lv_ishl hx hb dX3_signatureOf_54 ?_
    refine lv_iload hx hb dX3_signatureOf_55 (lv_at hl 6 rfl) ?_
    refine lv_ior hx hb dX3_signatureOf_57 ?_
    refine lv_topi (fun y15 ey15 => ?_)
    have h := h y15 ey15
    refine lv_istore (lv' := [(4, .int y15), (0, .ref (ad p0)), (1, .int b1), (2, .int b2), (3, .ref (ad p3)), (5, .int b5), (7, .int b7)]) hx hb dX3_signatureOf_58 hl (by decide) rfl (fun ls hl => ?_)
    obtain ⟨y16, ey16⟩ : ∃ y : Int32, y = b5 + 1 := ⟨_, rfl⟩
    have h := h y16 ey16
    refine lv_iinc (v := y16) (lv' := [(5, .int y16), (4, .int y15), (0, .ref (ad p0)), (1, .int b1), (2, .int b2), (3, .ref (ad p3)), (7, .int b7)]) hx hb dX3_signatureOf_60 hl (k := 5) rfl (by rw [ey16]; rfl) (by decide) rfl (fun ls hl => ?_)
    refine lv_goto (tgt := 6) hx hb dX3_signatureOf_63 (by decide) ?_
    exact h _ _ _ hP hD hS (lv_sub hl [2, 3, 4, 5, 1, 0] rfl)
set_option maxHeartbeats 4000000 in
set_option maxRecDepth 100000 in
theorem c_X3_groupBySignature (l : Launch) (D : va_G) (cc : Nat → ClassId) (A : Nat → Prop) (ad : Nat → Nat) (rs : va_W) (x1 : Int32) (μ : Mem) (K : Int32 → Mem → Prop) (h : f_X3_groupBySignature x1 μ K) : Met l yX3_groupBySignature wsX3_groupBySignature ({ frames := 0, cells := 0, slots := 0, locals := 0 }) (va_Pc [.ref (ad 50), .int x1] (PW shX 67 D cc A ad rs μ)) (va_Qi K (PW shX 67 D cc A ad rs) A) 0 0 A := by
  refine Met.ofW (cc := cX3_groupBySignature) (maxL := 5) (ret := (some .int)) (by decide) rfl ?_
  intro p e s m args below meth c s₁ BB hml hv
  obtain ⟨rfl, hP, hK, hD, hN⟩ := hv
  have hx := BB.exec
  have hb := BB.bytes
  have hr := BB.returns
  have hts := atoms_spec (ws := wsX3_groupBySignature) BB.pre
  have hown : s.vm.findClass RX3 = some m.cls := findClass_of_methodNamed BB.named
  have hlocks := BB.notSynchronized
  have hi_X3 : ∀ w ∈ u_ws RX3 TX3 6, w ∈ wsX3_groupBySignature := by decide +kernel
  have hw0 := hts (.fieldLink RX3 19 "FeatureClashes$Shape" "signatures" "[I") (by decide +kernel)
  have hw1 := hts (.fieldLink RX3 15 "FeatureClashes$Shape" "groups" "[I") (by decide +kernel)
  have hS : va_S A s.heap s.heap [] := va_S.rf
  have hl := lv_entry ([.ref (ad 50), .int x1]) (n := 5) (Nat.le_of_ble_eq_true rfl)
  rw [lg_entry_eq]
  generalize (lg_sl ([.ref (ad 50), .int x1]) ++ List.replicate (5 - (lg_sl ([.ref (ad 50), .int x1])).length) Slot.unset).toArray = ls at hl ⊢
  have hl : lv_has ls 5 [(0, .ref (ad 50)), (1, .int x1)] := hl
  unfold f_X3_groupBySignature at h
  refine (fun h => ?main) (h (fun b1 b2 b3 μ => ∀ (H1 : Heap) (locs : List Loc) (ls : Array Slot), va_P D vwCl (wW shX 67 cc ad μ ++ rs) H1 → va_D A (wW shX 67 cc ad μ ++ rs) → va_S A s.heap H1 locs → lv_has ls 5 [(0, .ref (ad 50)), (1, .int b1), (2, .int b2), (3, .int b3)] → W p l e (headSpec wsX3_groupBySignature ({ frames := 0, cells := 0, slots := 0, locals := 0 })).room s m ([.ref (ad 50), .int x1] : List Value).toArray below meth c H1 locs 0 0 (MQ below (va_Qi K (PW shX 67 D cc A ad rs) A) ([.ref (ad 50), .int x1] : List Value).toArray s 0 0 A) (F0 m 4 ls ([]))) (fun b1 b2 b3 b4 μ => ∀ (H1 : Heap) (locs : List Loc) (ls : Array Slot), va_P D vwCl (wW shX 67 cc ad μ ++ rs) H1 → va_D A (wW shX 67 cc ad μ ++ rs) → va_S A s.heap H1 locs → lv_has ls 5 [(0, .ref (ad 50)), (1, .int b1), (2, .int b2), (3, .int b3), (4, .int b4)] → W p l e (headSpec wsX3_groupBySignature ({ frames := 0, cells := 0, slots := 0, locals := 0 })).room s m ([.ref (ad 50), .int x1] : List Value).toArray below meth c H1 locs 0 0 (MQ below (va_Qi K (PW shX 67 D cc A ad rs) A) ([.ref (ad 50), .int x1] : List Value).toArray s 0 0 A) (F0 m 12 ls ([]))) (fun b1 b2 b3 b4 μ => ∀ (H1 : Heap) (locs : List Loc) (ls : Array Slot), va_P D vwCl (wW shX 67 cc ad μ ++ rs) H1 → va_D A (wW shX 67 cc ad μ ++ rs) → va_S A s.heap H1 locs → lv_has ls 5 [(0, .ref (ad 50)), (1, .int b1), (2, .int b2), (3, .int b3), (4, .int b4)] → W p l e (headSpec wsX3_groupBySignature ({ frames := 0, cells := 0, slots := 0, locals := 0 })).room s m ([.ref (ad 50), .int x1] : List Value).toArray below meth c H1 locs 0 0 (MQ below (va_Qi K (PW shX 67 D cc A ad rs) A) ([.ref (ad 50), .int x1] : List Value).toArray s 0 0 A) (F0 m 40 ls ([]))) (fun b1 b2 b3 μ => ∀ (H1 : Heap) (locs : List Loc) (ls : Array Slot), va_P D vwCl (wW shX 67 cc ad μ ++ rs) H1 → va_D A (wW shX 67 cc ad μ ++ rs) → va_S A s.heap H1 locs → lv_has ls 5 [(0, .ref (ad 50)), (1, .int b1), (2, .int b2), (3, .int b3)] → W p l e (headSpec wsX3_groupBySignature ({ frames := 0, cells := 0, slots := 0, locals := 0 })).room s m ([.ref (ad 50), .int x1] : List Value).toArray below meth c H1 locs 0 0 (MQ below (va_Qi K (PW shX 67 D cc A ad rs) A) ([.ref (ad 50), .int x1] : List Value).toArray s 0 0 A) (F0 m 72 ls ([]))) ?b4 ?b12 ?b40 ?b72)
  case main =>
      refine lv_iconst (v := 0) hx hb dX3_groupBySignature_0 (by decide) ?_
      refine lv_istore_n (lv' := [(2, .int 0), (0, .ref (ad 50)), (1, .int x1)]) hx hb dX3_groupBySignature_1 rfl hl (by decide) rfl (fun ls hl => ?_)
      refine lv_iconst (v := 0) hx hb dX3_groupBySignature_2 (by decide) ?_
      refine lv_istore_n (lv' := [(3, .int 0), (2, .int 0), (0, .ref (ad 50)), (1, .int x1)]) hx hb dX3_groupBySignature_3 rfl hl (by decide) rfl (fun ls hl => ?_)
      exact h _ _ _ hP hD hS (lv_sub hl [2, 3, 1, 0] rfl)
  case b4 =>
    intro b1 b2 b3 μ h H locs ls hP hD hS hl
    refine lv_iload_n hx hb dX3_groupBySignature_4 rfl (lv_at hl 3 rfl) ?_
    refine lv_iload_n hx hb dX3_groupBySignature_5 rfl (lv_at hl 1 rfl) ?_
    refine lv_icmp_ge (tgt := 78) hx hb dX3_groupBySignature_6 (by decide) (fun c1 => ?_) (fun c1 => ?_)
    · have h := h.1 c1
      refine lv_iload_n hx hb dX3_groupBySignature_78 rfl (lv_at hl 2 rfl) ?_
      exact W.iret (v := b2) hx hb hr (fun t ht hW => ⟨⟨b2, μ, rfl, h, PW.to hK hN hP hD t ht hW⟩, hS.F ht⟩) hS.2.2 dX3_groupBySignature_79
    · have h := h.2 c1
      refine lv_iconst (v := 0) hx hb dX3_groupBySignature_9 (by decide) ?_
      refine lv_istore (lv' := [(4, .int 0), (0, .ref (ad 50)), (1, .int b1), (2, .int b2), (3, .int b3)]) hx hb dX3_groupBySignature_10 hl (by decide) rfl (fun ls hl => ?_)
      exact h _ _ _ hP hD hS (lv_sub hl [1, 2, 3, 4, 0] rfl)
  case b12 =>
    intro b1 b2 b3 b4 μ h H locs ls hP hD hS hl
    refine lv_iload hx hb dX3_groupBySignature_12 (lv_at hl 4 rfl) ?_
    refine lv_iload_n hx hb dX3_groupBySignature_14 rfl (lv_at hl 3 rfl) ?_
    refine lv_icmp_ge (tgt := 40) hx hb dX3_groupBySignature_15 (by decide) (fun c2 => ?_) (fun c2 => ?_)
    · have h := h.1 c2
      exact h _ _ _ hP hD hS (lv_sub hl [0, 1, 2, 3, 4] rfl)
    · have h := h.2 c2
      refine lv_aload_n hx hb dX3_groupBySignature_18 rfl (lv_at hl 0 rfl) ?_
      refine zw_get (C := RX3) (T := TX3) (M := 6) (v := .ref (ad 53)) hx hb hts hi_X3 hown hK hP kX_50 rfl 2 (by decide) hw0 rfl dX3_groupBySignature_19 ?_
      refine lv_iload hx hb dX3_groupBySignature_22 (lv_at hl 4 rfl) ?_
      obtain ⟨hi3, h⟩ := h
      refine zw_iald hx hb hK hP kX_53 hi3 dX3_groupBySignature_24 ?_
      refine lv_aload_n hx hb dX3_groupBySignature_25 rfl (lv_at hl 0 rfl) ?_
      refine zw_get (C := RX3) (T := TX3) (M := 6) (v := .ref (ad 53)) hx hb hts hi_X3 hown hK hP kX_50 rfl 2 (by decide) hw0 rfl dX3_groupBySignature_26 ?_
      refine lv_iload_n hx hb dX3_groupBySignature_29 rfl (lv_at hl 3 rfl) ?_
      obtain ⟨hi4, h⟩ := h
      refine zw_iald hx hb hK hP kX_53 hi4 dX3_groupBySignature_30 ?_
      refine lv_icmp_eq (tgt := 40) hx hb dX3_groupBySignature_31 (by decide) (fun c5 => ?_) (fun c5 => ?_)
      · have h := h.1 c5
        exact h _ _ _ hP hD hS (lv_sub hl [0, 1, 2, 3, 4] rfl)
      · have h := h.2 c5
        obtain ⟨y6, ey6⟩ : ∃ y : Int32, y = b4 + 1 := ⟨_, rfl⟩
        have h := h y6 ey6
        refine lv_iinc (v := y6) (lv' := [(4, .int y6), (0, .ref (ad 50)), (1, .int b1), (2, .int b2), (3, .int b3)]) hx hb dX3_groupBySignature_34 hl (k := 4) rfl (by rw [ey6]; rfl) (by decide) rfl (fun ls hl => ?_)
        refine lv_goto (tgt := 12) hx hb dX3_groupBySignature_37 (by decide) ?_
        exact h _ _ _ hP hD hS (lv_sub hl [1, 2, 3, 4, 0] rfl)
  case b40 =>
    intro b1 b2 b3 b4 μ h H locs ls hP hD hS hl
    refine lv_iload hx hb dX3_groupBySignature_40 (lv_at hl 4 rfl) ?_
    refine lv_iload_n hx hb dX3_groupBySignature_42 rfl (lv_at hl 3 rfl) ?_
    refine lv_icmp_ge (tgt := 62) hx hb dX3_groupBySignature_43 (by decide) (fun c7 => ?_) (fun c7 => ?_)
    · have h := h.1 c7
      refine lv_aload_n hx hb dX3_groupBySignature_62 rfl (lv_at hl 0 rfl) ?_
      refine zw_get (C := RX3) (T := TX3) (M := 6) (v := .ref (ad 52)) hx hb hts hi_X3 hown hK hP kX_50 rfl 1 (by decide) hw1 rfl dX3_groupBySignature_63 ?_
      refine lv_iload_n hx hb dX3_groupBySignature_66 rfl (lv_at hl 3 rfl) ?_
      refine lv_iload_n hx hb dX3_groupBySignature_67 rfl (lv_at hl 2 rfl) ?_
      obtain ⟨hi8, h⟩ := h
      refine zw_iast hx hb hK hP hD hS kX_52 hi8 dX3_groupBySignature_68 (fun μ9 H locs eμ9 hP hD hS => ?_)
      have h := h μ9 eμ9
      obtain ⟨y10, ey10⟩ : ∃ y : Int32, y = b2 + 1 := ⟨_, rfl⟩
      have h := h y10 ey10
      refine lv_iinc (v := y10) (lv' := [(2, .int y10), (0, .ref (ad 50)), (1, .int b1), (3, .int b3), (4, .int b4)]) hx hb dX3_groupBySignature_69 hl (k := 2) rfl (by rw [ey10]; rfl) (by decide) rfl (fun ls hl => ?_)
      exact h _ _ _ hP hD hS (lv_sub hl [1, 2, 0, 3] rfl)
    · have h := h.2 c7
      refine lv_aload_n hx hb dX3_groupBySignature_46 rfl (lv_at hl 0 rfl) ?_
      refine zw_get (C := RX3) (T := TX3) (M := 6) (v := .ref (ad 52)) hx hb hts hi_X3 hown hK hP kX_50 rfl 1 (by decide) hw1 rfl dX3_groupBySignature_47 ?_
      refine lv_iload_n hx hb dX3_groupBySignature_50 rfl (lv_at hl 3 rfl) ?_
      refine lv_aload_n hx hb dX3_groupBySignature_51 rfl (lv_at hl 0 rfl) ?_
      refine zw_get (C := RX3) (T := TX3) (M := 6) (v := .ref (ad 52)) hx hb hts hi_X3 hown hK hP kX_50 rfl 1 (by decide) hw1 rfl dX3_groupBySignature_52 ?_
      refine lv_iload hx hb dX3_groupBySignature_55 (lv_at hl 4 rfl) ?_
      obtain ⟨hi11, h⟩ := h
      refine zw_iald hx hb hK hP kX_52 hi11 dX3_groupBySignature_57 ?_
      obtain ⟨hi12, h⟩ := h
      refine zw_iast hx hb hK hP hD hS kX_52 hi12 dX3_groupBySignature_58 (fun μ13 H locs eμ13 hP hD hS => ?_)
      have h := h μ13 eμ13
      refine lv_goto (tgt := 72) hx hb dX3_groupBySignature_59 (by decide) ?_
      exact h _ _ _ hP hD hS (lv_sub hl [0, 1, 2, 3] rfl)
  case b72 =>
    intro b1 b2 b3 μ h H locs ls hP hD hS hl
    obtain ⟨y14, ey14⟩ : ∃ y : Int32, y = b3 + 1 := ⟨_, rfl⟩
    have h := h y14 ey14
    refine lv_iinc (v := y14) (lv' := [(3, .int y14), (0, .ref (ad 50)), (1, .int b1), (2, .int b2)]) hx hb dX3_groupBySignature_72 hl (k := 3) rfl (by rw [ey14]; rfl) (by decide) rfl (fun ls hl => ?_)
    refine lv_goto (tgt := 4) hx hb dX3_groupBySignature_75 (by decide) ?_
    exact h _ _ _ hP hD hS (lv_sub hl [1, 2, 3, 0] rfl)
set_option maxHeartbeats 4000000 in
set_option maxRecDepth 100000 in
theorem c_X3_groupStates (l : Launch) (D : va_G) (cc : Nat → ClassId) (A : Nat → Prop) (ad : Nat → Nat) (rs : va_W) (p1 : Nat) (hp1 : isI shX 67 p1 32) (x2 : Int32) (x3 : Int32) (μ : Mem) (K : Mem → Prop) (h : f_X3_groupStates p1 x2 x3 μ K) : Met l yX3_groupStates wsX3_groupStates ({ frames := 2, cells := 0, slots := 0, locals := 48 }) (va_Pc [.ref (ad 50), .ref (ad p1), .int x2, .int x3] (PW shX 67 D cc A ad rs μ)) (va_Qv K (PW shX 67 D cc A ad rs) A) 0 0 A := by
  refine Met.ofW (cc := cX3_groupStates) (maxL := 8) (ret := none) (by decide) rfl ?_
  intro p e s m args below meth c s₁ BB hml hv
  obtain ⟨rfl, hP, hK, hD, hN⟩ := hv
  have hx := BB.exec
  have hb := BB.bytes
  have hr := BB.returns
  have hts := atoms_spec (ws := wsX3_groupStates) BB.pre
  have hown : s.vm.findClass RX3 = some m.cls := findClass_of_methodNamed BB.named
  have hlocks := BB.notSynchronized
  have hi_X3 : ∀ w ∈ u_ws RX3 TX3 6, w ∈ wsX3_groupStates := by decide +kernel
  have hw0 := hts (.fieldLink RX3 15 "FeatureClashes$Shape" "groups" "[I") (by decide +kernel)
  have hw1 := hts (.fieldLink RX3 19 "FeatureClashes$Shape" "signatures" "[I") (by decide +kernel)
  have hS : va_S A s.heap s.heap [] := va_S.rf
  have hl := lv_entry ([.ref (ad 50), .ref (ad p1), .int x2, .int x3]) (n := 8) (Nat.le_of_ble_eq_true rfl)
  rw [lg_entry_eq]
  generalize (lg_sl ([.ref (ad 50), .ref (ad p1), .int x2, .int x3]) ++ List.replicate (8 - (lg_sl ([.ref (ad 50), .ref (ad p1), .int x2, .int x3])).length) Slot.unset).toArray = ls at hl ⊢
  have hl : lv_has ls 8 [(0, .ref (ad 50)), (1, .ref (ad p1)), (2, .int x2), (3, .int x3)] := hl
  unfold f_X3_groupStates at h
  refine (fun h => ?main) (h (fun b2 b3 b4 b5 b6 μ => ∀ (H1 : Heap) (locs : List Loc) (ls : Array Slot), va_P D vwCl (wW shX 67 cc ad μ ++ rs) H1 → va_D A (wW shX 67 cc ad μ ++ rs) → va_S A s.heap H1 locs → lv_has ls 8 [(0, .ref (ad 50)), (1, .ref (ad p1)), (2, .int b2), (3, .int b3), (4, .int b4), (5, .int b5), (6, .int b6)] → W p l e (headSpec wsX3_groupStates ({ frames := 2, cells := 0, slots := 0, locals := 48 })).room s m ([.ref (ad 50), .ref (ad p1), .int x2, .int x3] : List Value).toArray below meth c H1 locs 0 0 (MQ below (va_Qv K (PW shX 67 D cc A ad rs) A) ([.ref (ad 50), .ref (ad p1), .int x2, .int x3] : List Value).toArray s 0 0 A) (F0 m 17 ls ([]))) (fun b2 b3 b4 b6 b7 μ => ∀ (H1 : Heap) (locs : List Loc) (ls : Array Slot), va_P D vwCl (wW shX 67 cc ad μ ++ rs) H1 → va_D A (wW shX 67 cc ad μ ++ rs) → va_S A s.heap H1 locs → lv_has ls 8 [(0, .ref (ad 50)), (1, .ref (ad p1)), (2, .int b2), (3, .int b3), (4, .int b4), (6, .int b6), (7, .int b7)] → W p l e (headSpec wsX3_groupStates ({ frames := 2, cells := 0, slots := 0, locals := 48 })).room s m ([.ref (ad 50), .ref (ad p1), .int x2, .int x3] : List Value).toArray below meth c H1 locs 0 0 (MQ below (va_Qv K (PW shX 67 D cc A ad rs) A) ([.ref (ad 50), .ref (ad p1), .int x2, .int x3] : List Value).toArray s 0 0 A) (F0 m 31 ls ([]))) (fun b2 b3 b6 b7 z0 μ => ∀ (H1 : Heap) (locs : List Loc) (ls : Array Slot), va_P D vwCl (wW shX 67 cc ad μ ++ rs) H1 → va_D A (wW shX 67 cc ad μ ++ rs) → va_S A s.heap H1 locs → lv_has ls 8 [(0, .ref (ad 50)), (1, .ref (ad p1)), (2, .int b2), (3, .int b3), (6, .int b6), (7, .int b7)] → W p l e (headSpec wsX3_groupStates ({ frames := 2, cells := 0, slots := 0, locals := 48 })).room s m ([.ref (ad 50), .ref (ad p1), .int x2, .int x3] : List Value).toArray below meth c H1 locs 0 0 (MQ below (va_Qv K (PW shX 67 D cc A ad rs) A) ([.ref (ad 50), .ref (ad p1), .int x2, .int x3] : List Value).toArray s 0 0 A) (F0 m 80 ls ([.int z0]))) ?b17 ?b31 ?b80)
  case main =>
      refine lv_aload_n hx hb dX3_groupStates_0 rfl (lv_at hl 0 rfl) ?_
      refine zw_get (C := RX3) (T := TX3) (M := 6) (v := .ref (ad 52)) hx hb hts hi_X3 hown hK hP kX_50 rfl 1 (by decide) hw0 rfl dX3_groupStates_1 ?_
      refine lv_iconst (v := 0) hx hb dX3_groupStates_4 (by decide) ?_
      refine zc_v (zc_runS (As := [.ref (ad 52), .int 0]) (rest := []) ⟨hx, hb, hml, hown, hts⟩ (c_J7_fill_53178 l D cc A ad rs 52 8 kX_52 0 μ _ h) (va_cwS 2 hts gX3_groupStates_J7_fill_53178 rfl rfl rfl (by decide +kernel) ⟨Nat.le_of_ble_eq_true rfl, Nat.le_of_ble_eq_true rfl⟩) hK hN hP hD rfl hl.1 rfl (Nat.le_of_ble_eq_true rfl) dX3_groupStates_5 ⟨Nat.zero_le _, Nat.zero_le _⟩) hS (fun μ2 H locs h hP hD hS => ?_)
      refine lv_iconst (v := 1) hx hb dX3_groupStates_8 (by decide) ?_
      refine lv_istore (lv' := [(4, .int 1), (0, .ref (ad 50)), (1, .ref (ad p1)), (2, .int x2), (3, .int x3)]) hx hb dX3_groupStates_9 hl (by decide) rfl (fun ls hl => ?_)
      refine lv_iconst (v := 1) hx hb dX3_groupStates_11 (by decide) ?_
      refine lv_istore (lv' := [(5, .int 1), (4, .int 1), (0, .ref (ad 50)), (1, .ref (ad p1)), (2, .int x2), (3, .int x3)]) hx hb dX3_groupStates_12 hl (by decide) rfl (fun ls hl => ?_)
      refine lv_iconst (v := 0) hx hb dX3_groupStates_14 (by decide) ?_
      refine lv_istore (lv' := [(6, .int 0), (5, .int 1), (4, .int 1), (0, .ref (ad 50)), (1, .ref (ad p1)), (2, .int x2), (3, .int x3)]) hx hb dX3_groupStates_15 hl (by decide) rfl (fun ls hl => ?_)
      exact h _ _ _ hP hD hS (lv_sub hl [3, 4, 5, 6, 2, 1, 0] rfl)
  case b17 =>
    intro b2 b3 b4 b5 b6 μ h H locs ls hP hD hS hl
    refine lv_iload hx hb dX3_groupStates_17 (lv_at hl 6 rfl) ?_
    refine lv_iload_n hx hb dX3_groupStates_19 rfl (lv_at hl 2 rfl) ?_
    refine lv_icmp_ge (tgt := 92) hx hb dX3_groupStates_20 (by decide) (fun c3 => ?_) (fun c3 => ?_)
    · have h := h.1 c3
      exact W.vret hx hb hr (fun t ht hW => ⟨⟨μ, rfl, h, PW.to hK hN hP hD t ht hW⟩, hS.F ht⟩) hS.2.2 dX3_groupStates_92
    · have h := h.2 c3
      refine lv_iload hx hb dX3_groupStates_23 (lv_at hl 5 rfl) ?_
      refine lv_if_eq (tgt := 92) hx hb dX3_groupStates_25 (by decide) (fun c4 => ?_) (fun c4 => ?_)
      · have h := h.1 c4
        exact W.vret hx hb hr (fun t ht hW => ⟨⟨μ, rfl, h, PW.to hK hN hP hD t ht hW⟩, hS.F ht⟩) hS.2.2 dX3_groupStates_92
      · have h := h.2 c4
        refine lv_iconst (v := 0) hx hb dX3_groupStates_28 (by decide) ?_
        refine lv_istore (lv' := [(7, .int 0), (0, .ref (ad 50)), (1, .ref (ad p1)), (2, .int b2), (3, .int b3), (4, .int b4), (5, .int b5), (6, .int b6)]) hx hb dX3_groupStates_29 hl (by decide) rfl (fun ls hl => ?_)
        exact h _ _ _ hP hD hS (lv_sub hl [1, 2, 3, 4, 5, 7, 0] rfl)
  case b31 =>
    intro b2 b3 b4 b6 b7 μ h H locs ls hP hD hS hl
    refine lv_iload hx hb dX3_groupStates_31 (lv_at hl 6 rfl) ?_
    refine lv_iload_n hx hb dX3_groupStates_33 rfl (lv_at hl 2 rfl) ?_
    refine lv_icmp_ge (tgt := 61) hx hb dX3_groupStates_34 (by decide) (fun c5 => ?_) (fun c5 => ?_)
    · have h := h.1 c5
      refine lv_aload_n hx hb dX3_groupStates_61 rfl (lv_at hl 0 rfl) ?_
      refine lv_iload_n hx hb dX3_groupStates_62 rfl (lv_at hl 2 rfl) ?_
      refine zc_i (zc_runV (As := [.int b2]) (rest := []) ⟨hx, hb, hml, hown, hts⟩ (c_X3_groupBySignature l D cc A ad rs b2 μ _ h) (cwV 1 hts gX3_groupStates_X3_groupBySignature rfl rfl rfl (by decide +kernel) ⟨Nat.le_of_ble_eq_true rfl, Nat.le_of_ble_eq_true rfl⟩) kX_50 rfl hK hN hP hD rfl hl.1 rfl (Nat.le_of_ble_eq_true rfl) dX3_groupStates_63 ⟨Nat.zero_le _, Nat.zero_le _⟩) hS (fun r6 μ7 H locs h hP hD hS => ?_)
      refine lv_istore (lv' := [(7, .int r6), (0, .ref (ad 50)), (1, .ref (ad p1)), (2, .int b2), (3, .int b3), (4, .int b4), (6, .int b6)]) hx hb dX3_groupStates_66 hl (by decide) rfl (fun ls hl => ?_)
      refine lv_iload hx hb dX3_groupStates_68 (lv_at hl 0 rfl) ?_
      refine lv_iload hx hb dX3_groupStates_70 (lv_at hl 5 rfl) ?_
      refine lv_icmp_le (tgt := 79) hx hb dX3_groupStates_72 (by decide) (fun c8 => ?_) (fun c8 => ?_)
      · have h := h.1 c8
        refine lv_iconst (v := 0) hx hb dX3_groupStates_79 (by decide) ?_
        exact h _ _ _ hP hD hS (lv_sub hl [1, 2, 3, 4, 6, 0] rfl)
      · have h := h.2 c8
        refine lv_iconst (v := 1) hx hb dX3_groupStates_75 (by decide) ?_
        refine lv_goto (tgt := 80) hx hb dX3_groupStates_76 (by decide) ?_
        exact h _ _ _ hP hD hS (lv_sub hl [1, 2, 3, 4, 6, 0] rfl)
    · have h := h.2 c5
      refine lv_aload_n hx hb dX3_groupStates_37 rfl (lv_at hl 0 rfl) ?_
      refine zw_get (C := RX3) (T := TX3) (M := 6) (v := .ref (ad 53)) hx hb hts hi_X3 hown hK hP kX_50 rfl 2 (by decide) hw1 rfl dX3_groupStates_38 ?_
      refine lv_iload hx hb dX3_groupStates_41 (lv_at hl 6 rfl) ?_
      refine lv_aload_n hx hb dX3_groupStates_43 rfl (lv_at hl 1 rfl) ?_
      refine lv_iload hx hb dX3_groupStates_44 (lv_at hl 6 rfl) ?_
      refine lv_iload_n hx hb dX3_groupStates_46 rfl (lv_at hl 3 rfl) ?_
      refine lv_aload_n hx hb dX3_groupStates_47 rfl (lv_at hl 0 rfl) ?_
      refine zw_get (C := RX3) (T := TX3) (M := 6) (v := .ref (ad 52)) hx hb hts hi_X3 hown hK hP kX_50 rfl 1 (by decide) hw0 rfl dX3_groupStates_48 ?_
      refine zc_i (zc_runS (As := [.ref (ad p1), .int b7, .int b3, .ref (ad 52)]) (rest := [.int b7, .ref (ad 53)]) ⟨hx, hb, hml, hown, hts⟩ (c_X3_signatureOf l D cc A ad rs p1 hp1 b7 b3 52 kX_52 μ _ h) (va_cwS 4 hts gX3_groupStates_X3_signatureOf rfl rfl rfl (by decide +kernel) ⟨Nat.le_of_ble_eq_true rfl, Nat.le_of_ble_eq_true rfl⟩) hK hN hP hD rfl hl.1 rfl (Nat.le_of_ble_eq_true rfl) dX3_groupStates_51 ⟨Nat.zero_le _, Nat.zero_le _⟩) hS (fun r9 μ10 H locs h hP hD hS => ?_)
      obtain ⟨hi11, h⟩ := h
      refine zw_iast hx hb hK hP hD hS kX_53 hi11 dX3_groupStates_54 (fun μ12 H locs eμ12 hP hD hS => ?_)
      have h := h μ12 eμ12
      obtain ⟨y13, ey13⟩ : ∃ y : Int32, y = b7 + 1 := ⟨_, rfl⟩
      have h := h y13 ey13
      refine lv_iinc (v := y13) (lv' := [(7, .int y13), (0, .ref (ad 50)), (1, .ref (ad p1)), (2, .int b2), (3, .int b3), (4, .int b4), (6, .int b6)]) hx hb dX3_groupStates_55 hl (k := 6) rfl (by rw [ey13]; rfl) (by decide) rfl (fun ls hl => ?_)
      refine lv_goto (tgt := 31) hx hb dX3_groupStates_58 (by decide) ?_
      exact h _ _ _ hP hD hS (lv_sub hl [1, 2, 3, 4, 5, 6, 0] rfl)
  case b80 =>
    intro b2 b3 b6 b7 z0 μ h H locs ls hP hD hS hl
    refine lv_istore (lv' := [(5, .int z0), (0, .ref (ad 50)), (1, .ref (ad p1)), (2, .int b2), (3, .int b3), (6, .int b6), (7, .int b7)]) hx hb dX3_groupStates_80 hl (by decide) rfl (fun ls hl => ?_)
    refine lv_iload hx hb dX3_groupStates_82 (lv_at hl 6 rfl) ?_
    refine lv_istore (lv' := [(4, .int b7), (5, .int z0), (0, .ref (ad 50)), (1, .ref (ad p1)), (2, .int b2), (3, .int b3), (6, .int b6), (7, .int b7)]) hx hb dX3_groupStates_84 hl (by decide) rfl (fun ls hl => ?_)
    obtain ⟨y14, ey14⟩ : ∃ y : Int32, y = b6 + 1 := ⟨_, rfl⟩
    have h := h y14 ey14
    refine lv_iinc (v := y14) (lv' := [(6, .int y14), (4, .int b7), (5, .int z0), (0, .ref (ad 50)), (1, .ref (ad p1)), (2, .int b2), (3, .int b3), (7, .int b7)]) hx hb dX3_groupStates_86 hl (k := 6) rfl (by rw [ey14]; rfl) (by decide) rfl (fun ls hl => ?_)
    refine lv_goto (tgt := 17) hx hb dX3_groupStates_89 (by decide) ?_
    exact h _ _ _ hP hD hS (lv_sub hl [3, 4, 5, 6, 1, 2, 0] rfl)
