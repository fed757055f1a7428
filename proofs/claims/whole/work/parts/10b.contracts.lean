set_option maxHeartbeats 4000000 in
set_option maxRecDepth 100000 in
theorem c_X3_numberGroupOf (l : Launch) (D : va_G) (cc : Nat → ClassId) (A : Nat → Prop) (ad : Nat → Nat) (rs : va_W) (x1 : Int32) (x2 : Int32) (μ : Mem) (K : Mem → Prop) (h : f_X3_numberGroupOf x1 x2 μ K) : Met l yX3_numberGroupOf wsX3_numberGroupOf ({ frames := 0, cells := 0, slots := 0, locals := 0 }) (va_Pc [.ref (ad 50), .int x1, .int x2] (PW shX 67 D cc A ad rs μ)) (va_Qv K (PW shX 67 D cc A ad rs) A) 0 0 A := by
  refine Met.ofW (cc := cX3_numberGroupOf) (maxL := 4) (ret := none) (by decide) rfl ?_
  intro p e s m args below meth c s₁ BB hml hv
  obtain ⟨rfl, hP, hK, hD, hN⟩ := hv
  have hx := BB.exec
  have hb := BB.bytes
  have hr := BB.returns
  have hts := atoms_spec (ws := wsX3_numberGroupOf) BB.pre
  have hown : s.vm.findClass RX3 = some m.cls := findClass_of_methodNamed BB.named
  have hlocks := BB.notSynchronized
  have hi_X3 : ∀ w ∈ u_ws RX3 TX3 6, w ∈ wsX3_numberGroupOf := by decide +kernel
  have hw0 := hts (.fieldLink RX3 22 "FeatureClashes$Shape" "numbers" "[I") (by decide +kernel)
  have hw1 := hts (.fieldLink RX3 28 "FeatureClashes$Shape" "numberCount" "I") (by decide +kernel)
  have hw2 := hts (.fieldLink RX3 25 "FeatureClashes$Shape" "leaders" "[I") (by decide +kernel)
  have hw3 := hts (.fieldLink RX3 15 "FeatureClashes$Shape" "groups" "[I") (by decide +kernel)
  have hS : va_S A s.heap s.heap [] := va_S.rf
  have hl := lv_entry ([.ref (ad 50), .int x1, .int x2]) (n := 4) (Nat.le_of_ble_eq_true rfl)
  rw [lg_entry_eq]
  generalize (lg_sl ([.ref (ad 50), .int x1, .int x2]) ++ List.replicate (4 - (lg_sl ([.ref (ad 50), .int x1, .int x2])).length) Slot.unset).toArray = ls at hl ⊢
  have hl : lv_has ls 4 [(0, .ref (ad 50)), (1, .int x1), (2, .int x2)] := hl
  unfold f_X3_numberGroupOf at h
  refine (fun h => ?main) (h (fun b1 b2 b3 μ => ∀ (H1 : Heap) (locs : List Loc) (ls : Array Slot), va_P D vwCl (wW shX 67 cc ad μ ++ rs) H1 → va_D A (wW shX 67 cc ad μ ++ rs) → va_S A s.heap H1 locs → lv_has ls 4 [(0, .ref (ad 50)), (1, .int b1), (2, .int b2), (3, .int b3)] → W p l e (headSpec wsX3_numberGroupOf ({ frames := 0, cells := 0, slots := 0, locals := 0 })).room s m ([.ref (ad 50), .int x1, .int x2] : List Value).toArray below meth c H1 locs 0 0 (MQ below (va_Qv K (PW shX 67 D cc A ad rs) A) ([.ref (ad 50), .int x1, .int x2] : List Value).toArray s 0 0 A) (F0 m 31 ls ([]))) (fun b1 b2 b3 μ => ∀ (H1 : Heap) (locs : List Loc) (ls : Array Slot), va_P D vwCl (wW shX 67 cc ad μ ++ rs) H1 → va_D A (wW shX 67 cc ad μ ++ rs) → va_S A s.heap H1 locs → lv_has ls 4 [(0, .ref (ad 50)), (1, .int b1), (2, .int b2), (3, .int b3)] → W p l e (headSpec wsX3_numberGroupOf ({ frames := 0, cells := 0, slots := 0, locals := 0 })).room s m ([.ref (ad 50), .int x1, .int x2] : List Value).toArray below meth c H1 locs 0 0 (MQ below (va_Qv K (PW shX 67 D cc A ad rs) A) ([.ref (ad 50), .int x1, .int x2] : List Value).toArray s 0 0 A) (F0 m 61 ls ([]))) ?b31 ?b61)
  case main =>
      refine lv_aload_n hx hb dX3_numberGroupOf_0 rfl (lv_at hl 0 rfl) ?_
      refine zw_get (C := RX3) (T := TX3) (M := 6) (v := .ref (ad 54)) hx hb hts hi_X3 hown hK hP kX_50 rfl 3 (by decide) hw0 rfl dX3_numberGroupOf_1 ?_
      refine lv_iload_n hx hb dX3_numberGroupOf_4 rfl (lv_at hl 1 rfl) ?_
      obtain ⟨hi1, h⟩ := h
      refine zw_iald hx hb hK hP kX_54 hi1 dX3_numberGroupOf_5 ?_
      refine lv_if_ge (tgt := 18) hx hb dX3_numberGroupOf_6 (by decide) (fun c2 => ?_) (fun c2 => ?_)
      · have h := h.1 c2
        exact W.vret hx hb hr (fun t ht hW => ⟨⟨μ, rfl, h, PW.to hK hN hP hD t ht hW⟩, hS.F ht⟩) hS.2.2 dX3_numberGroupOf_18
      · have h := h.2 c2
        refine lv_aload_n hx hb dX3_numberGroupOf_9 rfl (lv_at hl 0 rfl) ?_
        refine zw_get (C := RX3) (T := TX3) (M := 6) (v := .int (μ.1 50 5)) hx hb hts hi_X3 hown hK hP kX_50 rfl 5 (by decide) hw1 rfl dX3_numberGroupOf_10 ?_
        refine lv_bipush (v := 8) hx hb dX3_numberGroupOf_13 (by decide) ?_
        refine lv_icmp_lt (tgt := 19) hx hb dX3_numberGroupOf_15 (by decide) (fun c3 => ?_) (fun c3 => ?_)
        · have h := h.1 c3
          refine lv_aload_n hx hb dX3_numberGroupOf_19 rfl (lv_at hl 0 rfl) ?_
          refine zw_get (C := RX3) (T := TX3) (M := 6) (v := .ref (ad 55)) hx hb hts hi_X3 hown hK hP kX_50 rfl 4 (by decide) hw2 rfl dX3_numberGroupOf_20 ?_
          refine lv_aload_n hx hb dX3_numberGroupOf_23 rfl (lv_at hl 0 rfl) ?_
          refine zw_get (C := RX3) (T := TX3) (M := 6) (v := .int (μ.1 50 5)) hx hb hts hi_X3 hown hK hP kX_50 rfl 5 (by decide) hw1 rfl dX3_numberGroupOf_24 ?_
          refine lv_iload_n hx hb dX3_numberGroupOf_27 rfl (lv_at hl 1 rfl) ?_
          obtain ⟨hi4, h⟩ := h
          refine zw_iast hx hb hK hP hD hS kX_55 hi4 dX3_numberGroupOf_28 (fun μ5 H locs eμ5 hP hD hS => ?_)
          have h := h μ5 eμ5
          refine lv_iconst (v := 0) hx hb dX3_numberGroupOf_29 (by decide) ?_
          refine lv_istore_n (lv' := [(3, .int 0), (0, .ref (ad 50)), (1, .int x1), (2, .int x2)]) hx hb dX3_numberGroupOf_30 rfl hl (by decide) rfl (fun ls hl => ?_)
          exact h _ _ _ hP hD hS (lv_sub hl [1, 2, 3, 0] rfl)
        · have h := h.2 c3
          exact W.vret hx hb hr (fun t ht hW => ⟨⟨μ, rfl, h, PW.to hK hN hP hD t ht hW⟩, hS.F ht⟩) hS.2.2 dX3_numberGroupOf_18
  case b31 =>
    intro b1 b2 b3 μ h H locs ls hP hD hS hl
    refine lv_iload_n hx hb dX3_numberGroupOf_31 rfl (lv_at hl 3 rfl) ?_
    refine lv_iload_n hx hb dX3_numberGroupOf_32 rfl (lv_at hl 2 rfl) ?_
    refine lv_icmp_ge (tgt := 67) hx hb dX3_numberGroupOf_33 (by decide) (fun c6 => ?_) (fun c6 => ?_)
    · have h := h.1 c6
      refine lv_aload_n hx hb dX3_numberGroupOf_67 rfl (lv_at hl 0 rfl) ?_
      refine lv_dup hx hb dX3_numberGroupOf_68 rfl ?_
      refine zw_get (C := RX3) (T := TX3) (M := 6) (v := .int (μ.1 50 5)) hx hb hts hi_X3 hown hK hP kX_50 rfl 5 (by decide) hw1 rfl dX3_numberGroupOf_69 ?_
      refine lv_iconst (v := 1) hx hb dX3_numberGroupOf_72 (by decide) ?_
      refine lv_iadd hx hb dX3_numberGroupOf_73 ?_
      refine zw_put (C := RX3) (T := TX3) (M := 6) hx hb hts hi_X3 tyX3 tyX3_ok nmX3 hown hK hP hD hS kX_50 rfl 5 (by decide) hw1 rfl rfl (Nat.le_of_ble_eq_true rfl) rfl dX3_numberGroupOf_74 (fun μ7 H locs eμ7 hP hD hS => ?_)
      have h := h μ7 eμ7
      exact W.vret hx hb hr (fun t ht hW => ⟨⟨μ7, rfl, h, PW.to hK hN hP hD t ht hW⟩, hS.F ht⟩) hS.2.2 dX3_numberGroupOf_77
    · have h := h.2 c6
      refine lv_aload_n hx hb dX3_numberGroupOf_36 rfl (lv_at hl 0 rfl) ?_
      refine zw_get (C := RX3) (T := TX3) (M := 6) (v := .ref (ad 52)) hx hb hts hi_X3 hown hK hP kX_50 rfl 1 (by decide) hw3 rfl dX3_numberGroupOf_37 ?_
      refine lv_iload_n hx hb dX3_numberGroupOf_40 rfl (lv_at hl 3 rfl) ?_
      obtain ⟨hi8, h⟩ := h
      refine zw_iald hx hb hK hP kX_52 hi8 dX3_numberGroupOf_41 ?_
      refine lv_aload_n hx hb dX3_numberGroupOf_42 rfl (lv_at hl 0 rfl) ?_
      refine zw_get (C := RX3) (T := TX3) (M := 6) (v := .ref (ad 52)) hx hb hts hi_X3 hown hK hP kX_50 rfl 1 (by decide) hw3 rfl dX3_numberGroupOf_43 ?_
      refine lv_iload_n hx hb dX3_numberGroupOf_46 rfl (lv_at hl 1 rfl) ?_
      obtain ⟨hi9, h⟩ := h
      refine zw_iald hx hb hK hP kX_52 hi9 dX3_numberGroupOf_47 ?_
      refine lv_icmp_ne (tgt := 61) hx hb dX3_numberGroupOf_48 (by decide) (fun c10 => ?_) (fun c10 => ?_)
      · have h := h.1 c10
        exact h _ _ _ hP hD hS (lv_sub hl [0, 1, 2, 3] rfl)
      · have h := h.2 c10
        refine lv_aload_n hx hb dX3_numberGroupOf_51 rfl (lv_at hl 0 rfl) ?_
        refine zw_get (C := RX3) (T := TX3) (M := 6) (v := .ref (ad 54)) hx hb hts hi_X3 hown hK hP kX_50 rfl 3 (by decide) hw0 rfl dX3_numberGroupOf_52 ?_
        refine lv_iload_n hx hb dX3_numberGroupOf_55 rfl (lv_at hl 3 rfl) ?_
        refine lv_aload_n hx hb dX3_numberGroupOf_56 rfl (lv_at hl 0 rfl) ?_
        refine zw_get (C := RX3) (T := TX3) (M := 6) (v := .int (μ.1 50 5)) hx hb hts hi_X3 hown hK hP kX_50 rfl 5 (by decide) hw1 rfl dX3_numberGroupOf_57 ?_
        obtain ⟨hi11, h⟩ := h
        refine zw_iast hx hb hK hP hD hS kX_54 hi11 dX3_numberGroupOf_60 (fun μ12 H locs eμ12 hP hD hS => ?_)
        have h := h μ12 eμ12
        exact h _ _ _ hP hD hS (lv_sub hl [0, 1, 2, 3] rfl)
  case b61 =>
    intro b1 b2 b3 μ h H locs ls hP hD hS hl
    obtain ⟨y13, ey13⟩ : ∃ y : Int32, y = b3 + 1 := ⟨_, rfl⟩
    have h := h y13 ey13
    refine lv_iinc (v := y13) (lv' := [(3, .int y13), (0, .ref (ad 50)), (1, .int b1), (2, .int b2)]) hx hb dX3_numberGroupOf_61 hl (k := 3) rfl (by rw [ey13]; rfl) (by decide) rfl (fun ls hl => ?_)
    refine lv_goto (tgt := 31) hx hb dX3_numberGroupOf_64 (by decide) ?_
    exact h _ _ _ hP hD hS (lv_sub hl [1, 2, 3, 0] rfl)
set_option maxHeartbeats 4000000 in
set_option maxRecDepth 100000 in
theorem c_X3_numberGroups (l : Launch) (D : va_G) (cc : Nat → ClassId) (A : Nat → Prop) (ad : Nat → Nat) (rs : va_W) (p1 : Nat) (hp1 : isI shX 67 p1 32) (x2 : Int32) (x3 : Int32) (μ : Mem) (K : Mem → Prop) (h : f_X3_numberGroups p1 x2 x3 μ K) : Met l yX3_numberGroups wsX3_numberGroups ({ frames := 1, cells := 0, slots := 0, locals := 23 }) (va_Pc [.ref (ad 50), .ref (ad p1), .int x2, .int x3] (PW shX 67 D cc A ad rs μ)) (va_Qv K (PW shX 67 D cc A ad rs) A) 0 0 A := by
  refine Met.ofW (cc := cX3_numberGroups) (maxL := 7) (ret := none) (by decide) rfl ?_
  intro p e s m args below meth c s₁ BB hml hv
  obtain ⟨rfl, hP, hK, hD, hN⟩ := hv
  have hx := BB.exec
  have hb := BB.bytes
  have hr := BB.returns
  have hts := atoms_spec (ws := wsX3_numberGroups) BB.pre
  have hown : s.vm.findClass RX3 = some m.cls := findClass_of_methodNamed BB.named
  have hlocks := BB.notSynchronized
  have hi_X3 : ∀ w ∈ u_ws RX3 TX3 6, w ∈ wsX3_numberGroups := by decide +kernel
  have hw0 := hts (.fieldLink RX3 22 "FeatureClashes$Shape" "numbers" "[I") (by decide +kernel)
  have hw1 := hts (.fieldLink RX3 28 "FeatureClashes$Shape" "numberCount" "I") (by decide +kernel)
  have hw2 := hts (.fieldLink RX3 25 "FeatureClashes$Shape" "leaders" "[I") (by decide +kernel)
  have hw3 := hts (.initialized RX5) (by decide +kernel)
  have hw4 := hts (.static yX5_cellOf) (by decide +kernel)
  have hw5 := hts (.static yX5_targetOf) (by decide +kernel)
  have hS : va_S A s.heap s.heap [] := va_S.rf
  have hl := lv_entry ([.ref (ad 50), .ref (ad p1), .int x2, .int x3]) (n := 7) (Nat.le_of_ble_eq_true rfl)
  rw [lg_entry_eq]
  generalize (lg_sl ([.ref (ad 50), .ref (ad p1), .int x2, .int x3]) ++ List.replicate (7 - (lg_sl ([.ref (ad 50), .ref (ad p1), .int x2, .int x3])).length) Slot.unset).toArray = ls at hl ⊢
  have hl : lv_has ls 7 [(0, .ref (ad 50)), (1, .ref (ad p1)), (2, .int x2), (3, .int x3)] := hl
  unfold f_X3_numberGroups at h
  refine (fun h => ?main) (h (fun b2 b3 b4 μ => ∀ (H1 : Heap) (locs : List Loc) (ls : Array Slot), va_P D vwCl (wW shX 67 cc ad μ ++ rs) H1 → va_D A (wW shX 67 cc ad μ ++ rs) → va_S A s.heap H1 locs → lv_has ls 7 [(0, .ref (ad 50)), (1, .ref (ad p1)), (2, .int b2), (3, .int b3), (4, .int b4)] → W p l e (headSpec wsX3_numberGroups ({ frames := 1, cells := 0, slots := 0, locals := 23 })).room s m ([.ref (ad 50), .ref (ad p1), .int x2, .int x3] : List Value).toArray below meth c H1 locs 0 0 (MQ below (va_Qv K (PW shX 67 D cc A ad rs) A) ([.ref (ad 50), .ref (ad p1), .int x2, .int x3] : List Value).toArray s 0 0 A) (F0 m 22 ls ([]))) (fun b2 b3 b4 b5 μ => ∀ (H1 : Heap) (locs : List Loc) (ls : Array Slot), va_P D vwCl (wW shX 67 cc ad μ ++ rs) H1 → va_D A (wW shX 67 cc ad μ ++ rs) → va_S A s.heap H1 locs → lv_has ls 7 [(0, .ref (ad 50)), (1, .ref (ad p1)), (2, .int b2), (3, .int b3), (4, .int b4), (5, .int b5)] → W p l e (headSpec wsX3_numberGroups ({ frames := 1, cells := 0, slots := 0, locals := 23 })).room s m ([.ref (ad 50), .ref (ad p1), .int x2, .int x3] : List Value).toArray below meth c H1 locs 0 0 (MQ below (va_Qv K (PW shX 67 D cc A ad rs) A) ([.ref (ad 50), .ref (ad p1), .int x2, .int x3] : List Value).toArray s 0 0 A) (F0 m 41 ls ([]))) (fun b2 b3 b4 b5 μ => ∀ (H1 : Heap) (locs : List Loc) (ls : Array Slot), va_P D vwCl (wW shX 67 cc ad μ ++ rs) H1 → va_D A (wW shX 67 cc ad μ ++ rs) → va_S A s.heap H1 locs → lv_has ls 7 [(0, .ref (ad 50)), (1, .ref (ad p1)), (2, .int b2), (3, .int b3), (4, .int b4), (5, .int b5)] → W p l e (headSpec wsX3_numberGroups ({ frames := 1, cells := 0, slots := 0, locals := 23 })).room s m ([.ref (ad 50), .ref (ad p1), .int x2, .int x3] : List Value).toArray below meth c H1 locs 0 0 (MQ below (va_Qv K (PW shX 67 D cc A ad rs) A) ([.ref (ad 50), .ref (ad p1), .int x2, .int x3] : List Value).toArray s 0 0 A) (F0 m 79 ls ([]))) ?b22 ?b41 ?b79)
  case main =>
      refine lv_aload_n hx hb dX3_numberGroups_0 rfl (lv_at hl 0 rfl) ?_
      refine zw_get (C := RX3) (T := TX3) (M := 6) (v := .ref (ad 54)) hx hb hts hi_X3 hown hK hP kX_50 rfl 3 (by decide) hw0 rfl dX3_numberGroups_1 ?_
      refine lv_iconst (v := (-1)) hx hb dX3_numberGroups_4 (by decide) ?_
      refine zc_v (zc_runS (As := [.ref (ad 54), .int (-1)]) (rest := []) ⟨hx, hb, hml, hown, hts⟩ (c_J7_fill_53178 l D cc A ad rs 54 8 kX_54 (-1) μ _ h) (va_cwS 2 hts gX3_numberGroups_J7_fill_53178 rfl rfl rfl (by decide +kernel) ⟨Nat.le_of_ble_eq_true rfl, Nat.le_of_ble_eq_true rfl⟩) hK hN hP hD rfl hl.1 rfl (Nat.le_of_ble_eq_true rfl) dX3_numberGroups_5 ⟨Nat.zero_le _, Nat.zero_le _⟩) hS (fun μ2 H locs h hP hD hS => ?_)
      refine lv_aload_n hx hb dX3_numberGroups_8 rfl (lv_at hl 0 rfl) ?_
      refine lv_iconst (v := 0) hx hb dX3_numberGroups_9 (by decide) ?_
      refine zw_put (C := RX3) (T := TX3) (M := 6) hx hb hts hi_X3 tyX3 tyX3_ok nmX3 hown hK hP hD hS kX_50 rfl 5 (by decide) hw1 rfl rfl (Nat.le_of_ble_eq_true rfl) rfl dX3_numberGroups_10 (fun μ3 H locs eμ3 hP hD hS => ?_)
      have h := h μ3 eμ3
      refine lv_aload_n hx hb dX3_numberGroups_13 rfl (lv_at hl 0 rfl) ?_
      refine lv_iconst (v := 0) hx hb dX3_numberGroups_14 (by decide) ?_
      refine lv_iload_n hx hb dX3_numberGroups_15 rfl (lv_at hl 2 rfl) ?_
      refine zc_v (zc_runV (As := [.int 0, .int x2]) (rest := []) ⟨hx, hb, hml, hown, hts⟩ (c_X3_numberGroupOf l D cc A ad rs 0 x2 μ3 _ h) (cwV 2 hts gX3_numberGroups_X3_numberGroupOf rfl rfl rfl (by decide +kernel) ⟨Nat.le_of_ble_eq_true rfl, Nat.le_of_ble_eq_true rfl⟩) kX_50 rfl hK hN hP hD rfl hl.1 rfl (Nat.le_of_ble_eq_true rfl) dX3_numberGroups_16 ⟨Nat.zero_le _, Nat.zero_le _⟩) hS (fun μ5 H locs h hP hD hS => ?_)
      refine lv_iconst (v := 0) hx hb dX3_numberGroups_19 (by decide) ?_
      refine lv_istore (lv' := [(4, .int 0), (0, .ref (ad 50)), (1, .ref (ad p1)), (2, .int x2), (3, .int x3)]) hx hb dX3_numberGroups_20 hl (by decide) rfl (fun ls hl => ?_)
      exact h _ _ _ hP hD hS (lv_sub hl [1, 2, 3, 4, 0] rfl)
  case b22 =>
    intro b2 b3 b4 μ h H locs ls hP hD hS hl
    refine lv_iload hx hb dX3_numberGroups_22 (lv_at hl 4 rfl) ?_
    refine lv_aload_n hx hb dX3_numberGroups_24 rfl (lv_at hl 0 rfl) ?_
    refine zw_get (C := RX3) (T := TX3) (M := 6) (v := .int (μ.1 50 5)) hx hb hts hi_X3 hown hK hP kX_50 rfl 5 (by decide) hw1 rfl dX3_numberGroups_25 ?_
    refine lv_icmp_ge (tgt := 91) hx hb dX3_numberGroups_28 (by decide) (fun c6 => ?_) (fun c6 => ?_)
    · have h := h.1 c6
      exact W.vret hx hb hr (fun t ht hW => ⟨⟨μ, rfl, h, PW.to hK hN hP hD t ht hW⟩, hS.F ht⟩) hS.2.2 dX3_numberGroups_91
    · have h := h.2 c6
      refine lv_iload hx hb dX3_numberGroups_31 (lv_at hl 4 rfl) ?_
      refine lv_bipush (v := 8) hx hb dX3_numberGroups_33 (by decide) ?_
      refine lv_icmp_ge (tgt := 91) hx hb dX3_numberGroups_35 (by decide) (fun c7 => ?_) (fun c7 => ?_)
      · have h := h.1 c7
        exact W.vret hx hb hr (fun t ht hW => ⟨⟨μ, rfl, h, PW.to hK hN hP hD t ht hW⟩, hS.F ht⟩) hS.2.2 dX3_numberGroups_91
      · have h := h.2 c7
        refine lv_iconst (v := 0) hx hb dX3_numberGroups_38 (by decide) ?_
        refine lv_istore (lv' := [(5, .int 0), (0, .ref (ad 50)), (1, .ref (ad p1)), (2, .int b2), (3, .int b3), (4, .int b4)]) hx hb dX3_numberGroups_39 hl (by decide) rfl (fun ls hl => ?_)
        exact h _ _ _ hP hD hS (lv_sub hl [1, 2, 3, 4, 5, 0] rfl)
  case b41 =>
    intro b2 b3 b4 b5 μ h H locs ls hP hD hS hl
    refine lv_iload hx hb dX3_numberGroups_41 (lv_at hl 5 rfl) ?_
    refine lv_iload_n hx hb dX3_numberGroups_43 rfl (lv_at hl 3 rfl) ?_
    refine lv_icmp_ge (tgt := 85) hx hb dX3_numberGroups_44 (by decide) (fun c8 => ?_) (fun c8 => ?_)
    · have h := h.1 c8
      obtain ⟨y9, ey9⟩ : ∃ y : Int32, y = b4 + 1 := ⟨_, rfl⟩
      have h := h y9 ey9
      refine lv_iinc (v := y9) (lv' := [(4, .int y9), (0, .ref (ad 50)), (1, .ref (ad p1)), (2, .int b2), (3, .int b3), (5, .int b5)]) hx hb dX3_numberGroups_85 hl (k := 4) rfl (by rw [ey9]; rfl) (by decide) rfl (fun ls hl => ?_)
      refine lv_goto (tgt := 22) hx hb dX3_numberGroups_88 (by decide) ?_
      exact h _ _ _ hP hD hS (lv_sub hl [1, 2, 3, 4, 0] rfl)
    · have h := h.2 c8
      refine lv_aload_n hx hb dX3_numberGroups_47 rfl (lv_at hl 1 rfl) ?_
      refine lv_aload_n hx hb dX3_numberGroups_48 rfl (lv_at hl 0 rfl) ?_
      refine zw_get (C := RX3) (T := TX3) (M := 6) (v := .ref (ad 55)) hx hb hts hi_X3 hown hK hP kX_50 rfl 4 (by decide) hw2 rfl dX3_numberGroups_49 ?_
      refine lv_iload hx hb dX3_numberGroups_52 (lv_at hl 4 rfl) ?_
      obtain ⟨hi10, h⟩ := h
      refine zw_iald hx hb hK hP kX_55 hi10 dX3_numberGroups_54 ?_
      refine lv_iload hx hb dX3_numberGroups_55 (lv_at hl 5 rfl) ?_
      refine zc_i (zc_runSN (As := [.int (μ.1 55 (b4 : Int32).toNatClampNeg), .int b5]) (rest := [.ref (ad p1)]) ⟨hx, hb, hml, hown, hts⟩ (c_X5_cellOf l D cc A ad rs (μ.1 55 (b4 : Int32).toNatClampNeg) b5 μ _ h) ⟨va_cnB (host := "FeatureClashes") 2 hts gX3_numberGroups_X5_cellOf_n56 rfl rfl rfl (hN 6 _ rfl) hw3 (by decide +kernel) ⟨Nat.le_of_ble_eq_true rfl, Nat.le_of_ble_eq_true rfl⟩, hw4, trivial⟩ hK hN hP hD rfl hl.1 rfl (Nat.le_of_ble_eq_true rfl) dX3_numberGroups_57 ⟨Nat.zero_le _, Nat.zero_le _⟩) hS (fun r11 μ12 H locs h hP hD hS => ?_)
      obtain ⟨hi13, h⟩ := h
      refine zw_iald hx hb hK hP hp1 hi13 dX3_numberGroups_60 ?_
      refine lv_topi (fun y14 ey14 => ?_)
      have h := h y14 ey14
      refine lv_istore (lv' := [(6, .int y14), (0, .ref (ad 50)), (1, .ref (ad p1)), (2, .int b2), (3, .int b3), (4, .int b4), (5, .int b5)]) hx hb dX3_numberGroups_61 hl (by decide) rfl (fun ls hl => ?_)
      refine lv_iload hx hb dX3_numberGroups_63 (lv_at hl 0 rfl) ?_
      refine lv_iconst (v := (-1)) hx hb dX3_numberGroups_65 (by decide) ?_
      refine lv_icmp_eq (tgt := 79) hx hb dX3_numberGroups_66 (by decide) (fun c15 => ?_) (fun c15 => ?_)
      · have h := h.1 c15
        exact h _ _ _ hP hD hS (lv_sub hl [1, 2, 3, 4, 5, 6] rfl)
      · have h := h.2 c15
        refine lv_aload_n hx hb dX3_numberGroups_69 rfl (lv_at hl 1 rfl) ?_
        refine lv_iload hx hb dX3_numberGroups_70 (lv_at hl 0 rfl) ?_
        refine zc_i (zc_runSN (As := [.int y14]) (rest := [.ref (ad 50)]) ⟨hx, hb, hml, hown, hts⟩ (c_X5_targetOf l D cc A ad rs y14 μ12 _ h) ⟨va_cnB (host := "FeatureClashes") 1 hts gX3_numberGroups_X5_targetOf_n60 rfl rfl rfl (hN 5 _ rfl) hw3 (by decide +kernel) ⟨Nat.le_of_ble_eq_true rfl, Nat.le_of_ble_eq_true rfl⟩, hw5, trivial⟩ hK hN hP hD rfl hl.1 rfl (Nat.le_of_ble_eq_true rfl) dX3_numberGroups_72 ⟨Nat.zero_le _, Nat.zero_le _⟩) hS (fun r16 μ17 H locs h hP hD hS => ?_)
        refine lv_iload_n hx hb dX3_numberGroups_75 rfl (lv_at hl 3 rfl) ?_
        refine zc_v (zc_runV (As := [.int r16, .int b2]) (rest := []) ⟨hx, hb, hml, hown, hts⟩ (c_X3_numberGroupOf l D cc A ad rs r16 b2 μ17 _ h) (cwV 2 hts gX3_numberGroups_X3_numberGroupOf rfl rfl rfl (by decide +kernel) ⟨Nat.le_of_ble_eq_true rfl, Nat.le_of_ble_eq_true rfl⟩) kX_50 rfl hK hN hP hD rfl hl.1 rfl (Nat.le_of_ble_eq_true rfl) dX3_numberGroups_76 ⟨Nat.zero_le _, Nat.zero_le _⟩) hS (fun μ19 H locs h hP hD hS => ?_)
        exact h _ _ _ hP hD hS (lv_sub hl [1, 2, 3, 4, 5, 6] rfl)
  case b79 =>
    intro b2 b3 b4 b5 μ h H locs ls hP hD hS hl
    obtain ⟨y20, ey20⟩ : ∃ y : Int32, y = b5 + 1 := ⟨_, rfl⟩
    have h := h y20 ey20
    refine lv_iinc (v := y20) (lv' := [(5, .int y20), (0, .ref (ad 50)), (1, .ref (ad p1)), (2, .int b2), (3, .int b3), (4, .int b4)]) hx hb dX3_numberGroups_79 hl (k := 5) rfl (by rw [ey20]; rfl) (by decide) rfl (fun ls hl => ?_)
    refine lv_goto (tgt := 41) hx hb dX3_numberGroups_82 (by decide) ?_
    exact h _ _ _ hP hD hS (lv_sub hl [1, 2, 3, 4, 5, 0] rfl)
set_option maxHeartbeats 4000000 in
set_option maxRecDepth 100000 in
theorem c_J7_fill_d0a16 (l : Launch) (D : va_G) (cc : Nat → ClassId) (A : Nat → Prop) (ad : Nat → Nat) (rs : va_W) (p0 : Nat) (n0 : Nat) (hp0 : isJ shX 67 p0 n0) (x1 : Int64) (μ : Mem) (K : Mem → Prop) (h : f_J7_fill_d0a16 p0 n0 x1 μ K) : Met l yJ7_fill_d0a16 wsJ7_fill_d0a16 ({ frames := 0, cells := 0, slots := 0, locals := 0 }) (va_Pc [.ref (ad p0), .long x1] (PW shX 67 D cc A ad rs μ)) (va_Qv K (PW shX 67 D cc A ad rs) A) 0 0 A := by
  refine Met.ofW (cc := cJ7_fill_d0a16) (maxL := 5) (ret := none) (by decide) rfl ?_
  intro p e s m args below meth c s₁ BB hml hv
  obtain ⟨rfl, hP, hK, hD, hN⟩ := hv
  have hx := BB.exec
  have hb := BB.bytes
  have hr := BB.returns
  have hts := atoms_spec (ws := wsJ7_fill_d0a16) BB.pre
  have hown : s.vm.findClass RJ7 = some m.cls := findClass_of_methodNamed BB.named
  have hlocks := BB.notSynchronized
  have hS : va_S A s.heap s.heap [] := va_S.rf
  have hl := lv_entry ([.ref (ad p0), .long x1]) (n := 5) (Nat.le_of_ble_eq_true rfl)
  rw [lg_entry_eq]
  generalize (lg_sl ([.ref (ad p0), .long x1]) ++ List.replicate (5 - (lg_sl ([.ref (ad p0), .long x1])).length) Slot.unset).toArray = ls at hl ⊢
  have hl : lv_has ls 5 [(0, .ref (ad p0)), (1, .long x1)] := hl
  unfold f_J7_fill_d0a16 at h
  refine (fun h => ?main) (h (fun b1 b3 b4 μ => ∀ (H1 : Heap) (locs : List Loc) (ls : Array Slot), va_P D vwCl (wW shX 67 cc ad μ ++ rs) H1 → va_D A (wW shX 67 cc ad μ ++ rs) → va_S A s.heap H1 locs → lv_has ls 5 [(0, .ref (ad p0)), (1, .long b1), (3, .int b3), (4, .int b4)] → W p l e (headSpec wsJ7_fill_d0a16 ({ frames := 0, cells := 0, slots := 0, locals := 0 })).room s m ([.ref (ad p0), .long x1] : List Value).toArray below meth c H1 locs 0 0 (MQ below (va_Qv K (PW shX 67 D cc A ad rs) A) ([.ref (ad p0), .long x1] : List Value).toArray s 0 0 A) (F0 m 6 ls ([]))) ?b6)
  case main =>
      refine lv_iconst (v := 0) hx hb dJ7_fill_d0a16_0 (by decide) ?_
      refine lv_istore_n (lv' := [(3, .int 0), (0, .ref (ad p0)), (1, .long x1)]) hx hb dJ7_fill_d0a16_1 rfl hl (by decide) rfl (fun ls hl => ?_)
      refine lv_aload_n hx hb dJ7_fill_d0a16_2 rfl (lv_at hl 1 rfl) ?_
      refine zw_alenJ hx hb hK hP hp0 dJ7_fill_d0a16_3 ?_
      refine lv_topi (fun y1 ey1 => ?_)
      have h := h y1 ey1
      refine lv_istore (lv' := [(4, .int y1), (3, .int 0), (0, .ref (ad p0)), (1, .long x1)]) hx hb dJ7_fill_d0a16_4 hl (by decide) rfl (fun ls hl => ?_)
      exact h _ _ _ hP hD hS (lv_sub hl [2, 3, 1, 0] rfl)
  case b6 =>
    intro b1 b3 b4 μ h H locs ls hP hD hS hl
    refine lv_iload_n hx hb dJ7_fill_d0a16_6 rfl (lv_at hl 2 rfl) ?_
    refine lv_iload hx hb dJ7_fill_d0a16_7 (lv_at hl 3 rfl) ?_
    refine lv_icmp_ge (tgt := 22) hx hb dJ7_fill_d0a16_9 (by decide) (fun c2 => ?_) (fun c2 => ?_)
    · have h := h.1 c2
      exact W.vret hx hb hr (fun t ht hW => ⟨⟨μ, rfl, h, PW.to hK hN hP hD t ht hW⟩, hS.F ht⟩) hS.2.2 dJ7_fill_d0a16_22
    · have h := h.2 c2
      refine lv_aload_n hx hb dJ7_fill_d0a16_12 rfl (lv_at hl 0 rfl) ?_
      refine lv_iload_n hx hb dJ7_fill_d0a16_13 rfl (lv_at hl 2 rfl) ?_
      refine lv_lload_n hx hb dJ7_fill_d0a16_14 rfl (lv_at hl 1 rfl) ?_
      obtain ⟨hi3, h⟩ := h
      refine zw_last hx hb hK hP hD hS hp0 hi3 dJ7_fill_d0a16_15 (fun μ4 H locs eμ4 hP hD hS => ?_)
      have h := h μ4 eμ4
      obtain ⟨y5, ey5⟩ : ∃ y : Int32, y = b3 + 1 := ⟨_, rfl⟩
      have h := h y5 ey5
      refine lv_iinc (v := y5) (lv' := [(3, .int y5), (0, .ref (ad p0)), (1, .long b1), (4, .int b4)]) hx hb dJ7_fill_d0a16_16 hl (k := 2) rfl (by rw [ey5]; rfl) (by decide) rfl (fun ls hl => ?_)
      refine lv_goto (tgt := 6) hx hb dJ7_fill_d0a16_19 (by decide) ?_
      exact h _ _ _ hP hD hS (lv_sub hl [1, 2, 0, 3] rfl)
set_option maxHeartbeats 4000000 in
set_option maxRecDepth 100000 in
theorem c_X3_take (l : Launch) (D : va_G) (cc : Nat → ClassId) (A : Nat → Prop) (ad : Nat → Nat) (rs : va_W) (p1 : Nat) (hp1 : isI shX 67 p1 32) (x2 : Int32) (x3 : Int32) (μ : Mem) (K : Mem → Prop) (h : f_X3_take p1 x2 x3 μ K) : Met l yX3_take wsX3_take ({ frames := 3, cells := 0, slots := 0, locals := 75 }) (va_Pc [.ref (ad 50), .ref (ad p1), .int x2, .int x3] (PW shX 67 D cc A ad rs μ)) (va_Qv K (PW shX 67 D cc A ad rs) A) 0 0 A := by
  refine Met.ofW (cc := cX3_take) (maxL := 6) (ret := none) (by decide) rfl ?_
  intro p e s m args below meth c s₁ BB hml hv
  obtain ⟨rfl, hP, hK, hD, hN⟩ := hv
  have hx := BB.exec
  have hb := BB.bytes
  have hr := BB.returns
  have hts := atoms_spec (ws := wsX3_take) BB.pre
  have hown : s.vm.findClass RX3 = some m.cls := findClass_of_methodNamed BB.named
  have hlocks := BB.notSynchronized
  have hi_X3 : ∀ w ∈ u_ws RX3 TX3 6, w ∈ wsX3_take := by decide +kernel
  have hw0 := hts (.fieldLink RX3 11 "FeatureClashes$Shape" "form" "[J") (by decide +kernel)
  have hw1 := hts (.fieldLink RX3 28 "FeatureClashes$Shape" "numberCount" "I") (by decide +kernel)
  have hw2 := hts (.fieldLink RX3 25 "FeatureClashes$Shape" "leaders" "[I") (by decide +kernel)
  have hw3 := hts (.fieldLink RX3 22 "FeatureClashes$Shape" "numbers" "[I") (by decide +kernel)
  have hS : va_S A s.heap s.heap [] := va_S.rf
  have hl := lv_entry ([.ref (ad 50), .ref (ad p1), .int x2, .int x3]) (n := 6) (Nat.le_of_ble_eq_true rfl)
  rw [lg_entry_eq]
  generalize (lg_sl ([.ref (ad 50), .ref (ad p1), .int x2, .int x3]) ++ List.replicate (6 - (lg_sl ([.ref (ad 50), .ref (ad p1), .int x2, .int x3])).length) Slot.unset).toArray = ls at hl ⊢
  have hl : lv_has ls 6 [(0, .ref (ad 50)), (1, .ref (ad p1)), (2, .int x2), (3, .int x3)] := hl
  unfold f_X3_take at h
  refine (fun h => ?main) (h (fun b3 b4 μ => ∀ (H1 : Heap) (locs : List Loc) (ls : Array Slot), va_P D vwCl (wW shX 67 cc ad μ ++ rs) H1 → va_D A (wW shX 67 cc ad μ ++ rs) → va_S A s.heap H1 locs → lv_has ls 6 [(0, .ref (ad 50)), (1, .ref (ad p1)), (3, .int b3), (4, .int b4)] → W p l e (headSpec wsX3_take ({ frames := 3, cells := 0, slots := 0, locals := 75 })).room s m ([.ref (ad 50), .ref (ad p1), .int x2, .int x3] : List Value).toArray below meth c H1 locs 0 0 (MQ below (va_Qv K (PW shX 67 D cc A ad rs) A) ([.ref (ad 50), .ref (ad p1), .int x2, .int x3] : List Value).toArray s 0 0 A) (F0 m 25 ls ([]))) ?b25)
  case main =>
      refine lv_aload_n hx hb dX3_take_0 rfl (lv_at hl 0 rfl) ?_
      refine lv_aload_n hx hb dX3_take_1 rfl (lv_at hl 1 rfl) ?_
      refine lv_iload_n hx hb dX3_take_2 rfl (lv_at hl 2 rfl) ?_
      refine lv_iload_n hx hb dX3_take_3 rfl (lv_at hl 3 rfl) ?_
      refine zc_v (zc_runV (As := [.ref (ad p1), .int x2, .int x3]) (rest := []) ⟨hx, hb, hml, hown, hts⟩ (c_X3_groupStates l D cc A ad rs p1 hp1 x2 x3 μ _ h) (cwV 3 hts gX3_take_X3_groupStates rfl rfl rfl (by decide +kernel) ⟨Nat.le_of_ble_eq_true rfl, Nat.le_of_ble_eq_true rfl⟩) kX_50 rfl hK hN hP hD rfl hl.1 rfl (Nat.le_of_ble_eq_true rfl) dX3_take_4 ⟨Nat.zero_le _, Nat.zero_le _⟩) hS (fun μ2 H locs h hP hD hS => ?_)
      refine lv_aload_n hx hb dX3_take_7 rfl (lv_at hl 0 rfl) ?_
      refine lv_aload_n hx hb dX3_take_8 rfl (lv_at hl 1 rfl) ?_
      refine lv_iload_n hx hb dX3_take_9 rfl (lv_at hl 2 rfl) ?_
      refine lv_iload_n hx hb dX3_take_10 rfl (lv_at hl 3 rfl) ?_
      refine zc_v (zc_runV (As := [.ref (ad p1), .int x2, .int x3]) (rest := []) ⟨hx, hb, hml, hown, hts⟩ (c_X3_numberGroups l D cc A ad rs p1 hp1 x2 x3 μ2 _ h) (cwV 3 hts gX3_take_X3_numberGroups rfl rfl rfl (by decide +kernel) ⟨Nat.le_of_ble_eq_true rfl, Nat.le_of_ble_eq_true rfl⟩) kX_50 rfl hK hN hP hD rfl hl.1 rfl (Nat.le_of_ble_eq_true rfl) dX3_take_11 ⟨Nat.zero_le _, Nat.zero_le _⟩) hS (fun μ4 H locs h hP hD hS => ?_)
      refine lv_aload_n hx hb dX3_take_14 rfl (lv_at hl 0 rfl) ?_
      refine zw_get (C := RX3) (T := TX3) (M := 6) (v := .ref (ad 51)) hx hb hts hi_X3 hown hK hP kX_50 rfl 0 (by decide) hw0 rfl dX3_take_15 ?_
      refine lv_lconst (v := 0) hx hb dX3_take_18 (by decide) ?_
      refine zc_v (zc_runS (As := [.ref (ad 51), .long 0]) (rest := []) ⟨hx, hb, hml, hown, hts⟩ (c_J7_fill_d0a16 l D cc A ad rs 51 4 kX_51 0 μ4 _ h) (va_cwS 2 hts gX3_take_J7_fill_d0a16 rfl rfl rfl (by decide +kernel) ⟨Nat.le_of_ble_eq_true rfl, Nat.le_of_ble_eq_true rfl⟩) hK hN hP hD rfl hl.1 rfl (Nat.le_of_ble_eq_true rfl) dX3_take_19 ⟨Nat.zero_le _, Nat.zero_le _⟩) hS (fun μ6 H locs h hP hD hS => ?_)
      refine lv_iconst (v := 0) hx hb dX3_take_22 (by decide) ?_
      refine lv_istore (lv' := [(4, .int 0), (0, .ref (ad 50)), (1, .ref (ad p1)), (2, .int x2), (3, .int x3)]) hx hb dX3_take_23 hl (by decide) rfl (fun ls hl => ?_)
      exact h _ _ _ hP hD hS (lv_sub hl [1, 2, 4, 0] rfl)
  case b25 =>
    intro b3 b4 μ h H locs ls hP hD hS hl
    refine lv_iload hx hb dX3_take_25 (lv_at hl 3 rfl) ?_
    refine lv_aload_n hx hb dX3_take_27 rfl (lv_at hl 0 rfl) ?_
    refine zw_get (C := RX3) (T := TX3) (M := 6) (v := .int (μ.1 50 5)) hx hb hts hi_X3 hown hK hP kX_50 rfl 5 (by decide) hw1 rfl dX3_take_28 ?_
    refine lv_icmp_ge (tgt := 83) hx hb dX3_take_31 (by decide) (fun c7 => ?_) (fun c7 => ?_)
    · have h := h.1 c7
      exact W.vret hx hb hr (fun t ht hW => ⟨⟨μ, rfl, h, PW.to hK hN hP hD t ht hW⟩, hS.F ht⟩) hS.2.2 dX3_take_83
    · have h := h.2 c7
      refine lv_aload_n hx hb dX3_take_34 rfl (lv_at hl 1 rfl) ?_
      refine lv_aload_n hx hb dX3_take_35 rfl (lv_at hl 0 rfl) ?_
      refine zw_get (C := RX3) (T := TX3) (M := 6) (v := .ref (ad 55)) hx hb hts hi_X3 hown hK hP kX_50 rfl 4 (by decide) hw2 rfl dX3_take_36 ?_
      refine lv_iload hx hb dX3_take_39 (lv_at hl 3 rfl) ?_
      obtain ⟨hi8, h⟩ := h
      refine zw_iald hx hb hK hP kX_55 hi8 dX3_take_41 ?_
      refine lv_iload_n hx hb dX3_take_42 rfl (lv_at hl 2 rfl) ?_
      refine lv_aload_n hx hb dX3_take_43 rfl (lv_at hl 0 rfl) ?_
      refine zw_get (C := RX3) (T := TX3) (M := 6) (v := .ref (ad 54)) hx hb hts hi_X3 hown hK hP kX_50 rfl 3 (by decide) hw3 rfl dX3_take_44 ?_
      refine zc_i (zc_runS (As := [.ref (ad p1), .int (μ.1 55 (b4 : Int32).toNatClampNeg), .int b3, .ref (ad 54)]) (rest := []) ⟨hx, hb, hml, hown, hts⟩ (c_X3_signatureOf l D cc A ad rs p1 hp1 (μ.1 55 (b4 : Int32).toNatClampNeg) b3 54 kX_54 μ _ h) (va_cwS 4 hts gX3_take_X3_signatureOf rfl rfl rfl (by decide +kernel) ⟨Nat.le_of_ble_eq_true rfl, Nat.le_of_ble_eq_true rfl⟩) hK hN hP hD rfl hl.1 rfl (Nat.le_of_ble_eq_true rfl) dX3_take_47 ⟨Nat.zero_le _, Nat.zero_le _⟩) hS (fun r9 μ10 H locs h hP hD hS => ?_)
      refine lv_istore (lv' := [(5, .int r9), (0, .ref (ad 50)), (1, .ref (ad p1)), (3, .int b3), (4, .int b4)]) hx hb dX3_take_50 hl (by decide) rfl (fun ls hl => ?_)
      refine lv_aload_n hx hb dX3_take_52 rfl (lv_at hl 1 rfl) ?_
      refine zw_get (C := RX3) (T := TX3) (M := 6) (v := .ref (ad 51)) hx hb hts hi_X3 hown hK hP kX_50 rfl 0 (by decide) hw0 rfl dX3_take_53 ?_
      refine lv_iload hx hb dX3_take_56 (lv_at hl 4 rfl) ?_
      refine lv_iconst (v := 2) hx hb dX3_take_58 (by decide) ?_
      refine lv_idiv hx hb dX3_take_59 (by decide) ?_
      refine lv_aload_n hx hb dX3_take_60 rfl (lv_at hl 1 rfl) ?_
      refine zw_get (C := RX3) (T := TX3) (M := 6) (v := .ref (ad 51)) hx hb hts hi_X3 hown hK hP kX_50 rfl 0 (by decide) hw0 rfl dX3_take_61 ?_
      refine lv_iload hx hb dX3_take_64 (lv_at hl 4 rfl) ?_
      refine lv_iconst (v := 2) hx hb dX3_take_66 (by decide) ?_
      refine lv_idiv hx hb dX3_take_67 (by decide) ?_
      obtain ⟨hi11, h⟩ := h
      refine zw_lald hx hb hK hP kX_51 hi11 dX3_take_68 ?_
      refine lv_bipush (v := 28) hx hb dX3_take_69 (by decide) ?_
      refine lv_lshl (v := (μ10.2 51 (b4 / 2 : Int32).toNatClampNeg) <<< ((28 : Int32).toInt64 &&& 63)) hx hb dX3_take_71 rfl ?_
      refine lv_iload hx hb dX3_take_72 (lv_at hl 0 rfl) ?_
      refine lv_i2l (v := (r9 : Int32).toInt64) hx hb dX3_take_74 rfl ?_
      refine lv_lor hx hb dX3_take_75 ?_
      obtain ⟨hi12, h⟩ := h
      refine zw_last hx hb hK hP hD hS kX_51 hi12 dX3_take_76 (fun μ13 H locs eμ13 hP hD hS => ?_)
      have h := h μ13 eμ13
      obtain ⟨y14, ey14⟩ : ∃ y : Int32, y = b4 + 1 := ⟨_, rfl⟩
      have h := h y14 ey14
      refine lv_iinc (v := y14) (lv' := [(4, .int y14), (5, .int r9), (0, .ref (ad 50)), (1, .ref (ad p1)), (3, .int b3)]) hx hb dX3_take_77 hl (k := 4) rfl (by rw [ey14]; rfl) (by decide) rfl (fun ls hl => ?_)
      refine lv_goto (tgt := 25) hx hb dX3_take_80 (by decide) ?_
      exact h _ _ _ hP hD hS (lv_sub hl [2, 3, 4, 0] rfl)
set_option maxHeartbeats 4000000 in
set_option maxRecDepth 100000 in
theorem c_X1_isFormAt (l : Launch) (D : va_G) (cc : Nat → ClassId) (A : Nat → Prop) (ad : Nat → Nat) (rs : va_W) (x1 : Int32) (μ : Mem) (K : Int32 → Mem → Prop) (h : f_X1_isFormAt x1 μ K) : Met l yX1_isFormAt wsX1_isFormAt ({ frames := 0, cells := 0, slots := 0, locals := 0 }) (va_Pc [.ref (ad 49), .int x1] (PW shX 67 D cc A ad rs μ)) (va_Qi K (PW shX 67 D cc A ad rs) A) 0 0 A := by
  refine Met.ofW (cc := cX1_isFormAt) (maxL := 3) (ret := (some .boolean)) (by decide) rfl ?_
  intro p e s m args below meth c s₁ BB hml hv
  obtain ⟨rfl, hP, hK, hD, hN⟩ := hv
  have hx := BB.exec
  have hb := BB.bytes
  have hr := BB.returns
  have hts := atoms_spec (ws := wsX1_isFormAt) BB.pre
  have hown : s.vm.findClass RX1 = some m.cls := findClass_of_methodNamed BB.named
  have hlocks := BB.notSynchronized
  have hi_X1 : ∀ w ∈ u_ws RX1 TX1 7, w ∈ wsX1_isFormAt := by decide +kernel
  have hi_X3 : ∀ w ∈ u_ws RX3 TX3 6, w ∈ wsX1_isFormAt := by decide +kernel
  have hw0 := hts (.fieldLink RX1 18 "FeatureClashes$Outcomes" "forms" "[J") (by decide +kernel)
  have hw1 := hts (.fieldLink RX1 12 "FeatureClashes$Outcomes" "shape" "LFeatureClashes$Shape;") (by decide +kernel)
  have hw2 := hts (.fieldLink RX1 106 "FeatureClashes$Shape" "form" "[J") (by decide +kernel)
  have hS : va_S A s.heap s.heap [] := va_S.rf
  have hl := lv_entry ([.ref (ad 49), .int x1]) (n := 3) (Nat.le_of_ble_eq_true rfl)
  rw [lg_entry_eq]
  generalize (lg_sl ([.ref (ad 49), .int x1]) ++ List.replicate (3 - (lg_sl ([.ref (ad 49), .int x1])).length) Slot.unset).toArray = ls at hl ⊢
  have hl : lv_has ls 3 [(0, .ref (ad 49)), (1, .int x1)] := hl
  unfold f_X1_isFormAt at h
  refine (fun h => ?main) (h (fun b1 b2 μ => ∀ (H1 : Heap) (locs : List Loc) (ls : Array Slot), va_P D vwCl (wW shX 67 cc ad μ ++ rs) H1 → va_D A (wW shX 67 cc ad μ ++ rs) → va_S A s.heap H1 locs → lv_has ls 3 [(0, .ref (ad 49)), (1, .int b1), (2, .int b2)] → W p l e (headSpec wsX1_isFormAt ({ frames := 0, cells := 0, slots := 0, locals := 0 })).room s m ([.ref (ad 49), .int x1] : List Value).toArray below meth c H1 locs 0 0 (MQ below (va_Qi K (PW shX 67 D cc A ad rs) A) ([.ref (ad 49), .int x1] : List Value).toArray s 0 0 A) (F0 m 2 ls ([]))) ?b2)
  case main =>
      refine lv_iconst (v := 0) hx hb dX1_isFormAt_0 (by decide) ?_
      refine lv_istore_n (lv' := [(2, .int 0), (0, .ref (ad 49)), (1, .int x1)]) hx hb dX1_isFormAt_1 rfl hl (by decide) rfl (fun ls hl => ?_)
      exact h _ _ _ hP hD hS (lv_sub hl [1, 2, 0] rfl)
  case b2 =>
    intro b1 b2 μ h H locs ls hP hD hS hl
    refine lv_iload_n hx hb dX1_isFormAt_2 rfl (lv_at hl 2 rfl) ?_
    refine lv_iconst (v := 4) hx hb dX1_isFormAt_3 (by decide) ?_
    refine lv_icmp_ge (tgt := 36) hx hb dX1_isFormAt_4 (by decide) (fun c1 => ?_) (fun c1 => ?_)
    · have h := h.1 c1
      refine lv_iconst (v := 1) hx hb dX1_isFormAt_36 (by decide) ?_
      exact W.zret (ty := .boolean) (v := 1) hx hb hr rfl (fun t ht hW => ⟨⟨1, μ, rfl, h, PW.to hK hN hP hD t ht hW⟩, hS.F ht⟩) hS.2.2 dX1_isFormAt_37
    · have h := h.2 c1
      refine lv_aload_n hx hb dX1_isFormAt_7 rfl (lv_at hl 0 rfl) ?_
      refine zw_get (C := RX1) (T := TX1) (M := 7) (v := .ref (ad 56)) hx hb hts hi_X1 hown hK hP kX_49 rfl 1 (by decide) hw0 rfl dX1_isFormAt_8 ?_
      refine lv_iload_n hx hb dX1_isFormAt_11 rfl (lv_at hl 1 rfl) ?_
      refine lv_iload_n hx hb dX1_isFormAt_12 rfl (lv_at hl 2 rfl) ?_
      refine lv_iadd hx hb dX1_isFormAt_13 ?_
      obtain ⟨hi2, h⟩ := h
      refine zw_lald hx hb hK hP kX_56 hi2 dX1_isFormAt_14 ?_
      refine lv_aload_n hx hb dX1_isFormAt_15 rfl (lv_at hl 0 rfl) ?_
      refine zw_get (C := RX1) (T := TX1) (M := 7) (v := .ref (ad 50)) hx hb hts hi_X1 hown hK hP kX_49 rfl 0 (by decide) hw1 rfl dX1_isFormAt_16 ?_
      refine zw_get (C := RX3) (T := TX3) (M := 6) (v := .ref (ad 51)) hx hb hts hi_X3 hown hK hP kX_50 rfl 0 (by decide) hw2 rfl dX1_isFormAt_19 ?_
      refine lv_iload_n hx hb dX1_isFormAt_22 rfl (lv_at hl 2 rfl) ?_
      obtain ⟨hi3, h⟩ := h
      refine zw_lald hx hb hK hP kX_51 hi3 dX1_isFormAt_23 ?_
      refine W.lcmp hx hb dX1_isFormAt_24 ?_
      refine lv_if_eq (tgt := 30) hx hb dX1_isFormAt_25 (by decide) (fun c4 => ?_) (fun c4 => ?_)
      · have h := h.1 c4
        obtain ⟨y5, ey5⟩ : ∃ y : Int32, y = b2 + 1 := ⟨_, rfl⟩
        have h := h y5 ey5
        refine lv_iinc (v := y5) (lv' := [(2, .int y5), (0, .ref (ad 49)), (1, .int b1)]) hx hb dX1_isFormAt_30 hl (k := 2) rfl (by rw [ey5]; rfl) (by decide) rfl (fun ls hl => ?_)
        refine lv_goto (tgt := 2) hx hb dX1_isFormAt_33 (by decide) ?_
        exact h _ _ _ hP hD hS (lv_sub hl [1, 2, 0] rfl)
      · have h := h.2 c4
        refine lv_iconst (v := 0) hx hb dX1_isFormAt_28 (by decide) ?_
        exact W.zret (ty := .boolean) (v := 0) hx hb hr rfl (fun t ht hW => ⟨⟨0, μ, rfl, h, PW.to hK hN hP hD t ht hW⟩, hS.F ht⟩) hS.2.2 dX1_isFormAt_29
set_option maxHeartbeats 4000000 in
set_option maxRecDepth 100000 in
theorem c_X1_isKnown (l : Launch) (D : va_G) (cc : Nat → ClassId) (A : Nat → Prop) (ad : Nat → Nat) (rs : va_W)  (μ : Mem) (K : Int32 → Mem → Prop) (h : f_X1_isKnown  μ K) : Met l yX1_isKnown wsX1_isKnown ({ frames := 1, cells := 0, slots := 0, locals := 22 }) (va_Pc [.ref (ad 49)] (PW shX 67 D cc A ad rs μ)) (va_Qi K (PW shX 67 D cc A ad rs) A) 0 0 A := by
  refine Met.ofW (cc := cX1_isKnown) (maxL := 2) (ret := (some .boolean)) (by decide) rfl ?_
  intro p e s m args below meth c s₁ BB hml hv
  obtain ⟨rfl, hP, hK, hD, hN⟩ := hv
  have hx := BB.exec
  have hb := BB.bytes
  have hr := BB.returns
  have hts := atoms_spec (ws := wsX1_isKnown) BB.pre
  have hown : s.vm.findClass RX1 = some m.cls := findClass_of_methodNamed BB.named
  have hlocks := BB.notSynchronized
  have hi_X1 : ∀ w ∈ u_ws RX1 TX1 7, w ∈ wsX1_isKnown := by decide +kernel
  have hw0 := hts (.fieldLink RX1 22 "FeatureClashes$Outcomes" "kinds" "I") (by decide +kernel)
  have hS : va_S A s.heap s.heap [] := va_S.rf
  have hl := lv_entry ([.ref (ad 49)]) (n := 2) (Nat.le_of_ble_eq_true rfl)
  rw [lg_entry_eq]
  generalize (lg_sl ([.ref (ad 49)]) ++ List.replicate (2 - (lg_sl ([.ref (ad 49)])).length) Slot.unset).toArray = ls at hl ⊢
  have hl : lv_has ls 2 [(0, .ref (ad 49))] := hl
  unfold f_X1_isKnown at h
  refine (fun h => ?main) (h (fun b1 μ => ∀ (H1 : Heap) (locs : List Loc) (ls : Array Slot), va_P D vwCl (wW shX 67 cc ad μ ++ rs) H1 → va_D A (wW shX 67 cc ad μ ++ rs) → va_S A s.heap H1 locs → lv_has ls 2 [(0, .ref (ad 49)), (1, .int b1)] → W p l e (headSpec wsX1_isKnown ({ frames := 1, cells := 0, slots := 0, locals := 22 })).room s m ([.ref (ad 49)] : List Value).toArray below meth c H1 locs 0 0 (MQ below (va_Qi K (PW shX 67 D cc A ad rs) A) ([.ref (ad 49)] : List Value).toArray s 0 0 A) (F0 m 2 ls ([]))) ?b2)
  case main =>
      refine lv_iconst (v := 0) hx hb dX1_isKnown_0 (by decide) ?_
      refine lv_istore_n (lv' := [(1, .int 0), (0, .ref (ad 49))]) hx hb dX1_isKnown_1 rfl hl (by decide) rfl (fun ls hl => ?_)
      exact h _ _ _ hP hD hS (lv_sub hl [1, 0] rfl)
  case b2 =>
    intro b1 μ h H locs ls hP hD hS hl
    refine lv_iload_n hx hb dX1_isKnown_2 rfl (lv_at hl 1 rfl) ?_
    refine lv_aload_n hx hb dX1_isKnown_3 rfl (lv_at hl 0 rfl) ?_
    refine zw_get (C := RX1) (T := TX1) (M := 7) (v := .int (μ.1 49 2)) hx hb hts hi_X1 hown hK hP kX_49 rfl 2 (by decide) hw0 rfl dX1_isKnown_4 ?_
    refine lv_icmp_ge (tgt := 28) hx hb dX1_isKnown_7 (by decide) (fun c1 => ?_) (fun c1 => ?_)
    · have h := h.1 c1
      refine lv_iconst (v := 0) hx hb dX1_isKnown_28 (by decide) ?_
      exact W.zret (ty := .boolean) (v := 0) hx hb hr rfl (fun t ht hW => ⟨⟨0, μ, rfl, h, PW.to hK hN hP hD t ht hW⟩, hS.F ht⟩) hS.2.2 dX1_isKnown_29
    · have h := h.2 c1
      refine lv_aload_n hx hb dX1_isKnown_10 rfl (lv_at hl 0 rfl) ?_
      refine lv_iload_n hx hb dX1_isKnown_11 rfl (lv_at hl 1 rfl) ?_
      refine lv_iconst (v := 4) hx hb dX1_isKnown_12 (by decide) ?_
      refine lv_imul hx hb dX1_isKnown_13 ?_
      refine zc_i (zc_runV (As := [.int (b1 * 4)]) (rest := []) ⟨hx, hb, hml, hown, hts⟩ (c_X1_isFormAt l D cc A ad rs (b1 * 4) μ _ h) (cwV 1 hts gX1_isKnown_X1_isFormAt rfl rfl rfl (by decide +kernel) ⟨Nat.le_of_ble_eq_true rfl, Nat.le_of_ble_eq_true rfl⟩) kX_49 rfl hK hN hP hD rfl hl.1 rfl (Nat.le_of_ble_eq_true rfl) dX1_isKnown_14 ⟨Nat.zero_le _, Nat.zero_le _⟩) hS (fun r2 μ3 H locs h hP hD hS => ?_)
      refine lv_if_eq (tgt := 22) hx hb dX1_isKnown_17 (by decide) (fun c4 => ?_) (fun c4 => ?_)
      · have h := h.1 c4
        obtain ⟨y5, ey5⟩ : ∃ y : Int32, y = b1 + 1 := ⟨_, rfl⟩
        have h := h y5 ey5
        refine lv_iinc (v := y5) (lv' := [(1, .int y5), (0, .ref (ad 49))]) hx hb dX1_isKnown_22 hl (k := 1) rfl (by rw [ey5]; rfl) (by decide) rfl (fun ls hl => ?_)
        refine lv_goto (tgt := 2) hx hb dX1_isKnown_25 (by decide) ?_
        exact h _ _ _ hP hD hS (lv_sub hl [1, 0] rfl)
      · have h := h.2 c4
        refine lv_iconst (v := 1) hx hb dX1_isKnown_20 (by decide) ?_
        exact W.zret (ty := .boolean) (v := 1) hx hb hr rfl (fun t ht hW => ⟨⟨1, μ3, rfl, h, PW.to hK hN hP hD t ht hW⟩, hS.F ht⟩) hS.2.2 dX1_isKnown_21
set_option maxHeartbeats 4000000 in
set_option maxRecDepth 100000 in
theorem c_X1_keepForm (l : Launch) (D : va_G) (cc : Nat → ClassId) (A : Nat → Prop) (ad : Nat → Nat) (rs : va_W)  (μ : Mem) (K : Mem → Prop) (h : f_X1_keepForm  μ K) : Met l yX1_keepForm wsX1_keepForm ({ frames := 2, cells := 0, slots := 0, locals := 60 }) (va_Pc [.ref (ad 49)] (PW shX 67 D cc A ad rs μ)) (va_Qv K (PW shX 67 D cc A ad rs) A) 0 0 A := by
  refine Met.ofW (cc := cX1_keepForm) (maxL := 1) (ret := none) (by decide) rfl ?_
  intro p e s m args below meth c s₁ BB hml hv
  obtain ⟨rfl, hP, hK, hD, hN⟩ := hv
  have hx := BB.exec
  have hb := BB.bytes
  have hr := BB.returns
  have hts := atoms_spec (ws := wsX1_keepForm) BB.pre
  have hown : s.vm.findClass RX1 = some m.cls := findClass_of_methodNamed BB.named
  have hlocks := BB.notSynchronized
  have hi_X1 : ∀ w ∈ u_ws RX1 TX1 7, w ∈ wsX1_keepForm := by decide +kernel
  have hi_X3 : ∀ w ∈ u_ws RX3 TX3 6, w ∈ wsX1_keepForm := by decide +kernel
  have hw0 := hts (.fieldLink RX1 22 "FeatureClashes$Outcomes" "kinds" "I") (by decide +kernel)
  have hw1 := hts (.fieldLink RX1 26 "FeatureClashes$Outcomes" "limit" "I") (by decide +kernel)
  have hw2 := hts (.fieldLink RX1 12 "FeatureClashes$Outcomes" "shape" "LFeatureClashes$Shape;") (by decide +kernel)
  have hw3 := hts (.fieldLink RX1 106 "FeatureClashes$Shape" "form" "[J") (by decide +kernel)
  have hw4 := hts (.fieldLink RX1 18 "FeatureClashes$Outcomes" "forms" "[J") (by decide +kernel)
  have hw5 := hts (.methodLink RX1 109 arraycopyName) (by decide +kernel)
  have hw6 := hts (.native arraycopyName) (by decide +kernel)
  have hw7 := hts (.static arraycopyName) (by decide +kernel)
  have hw8 := hts (.initialized "java/lang/System") (by decide +kernel)
  have hS : va_S A s.heap s.heap [] := va_S.rf
  have hl := lv_entry ([.ref (ad 49)]) (n := 1) (Nat.le_of_ble_eq_true rfl)
  rw [lg_entry_eq]
  generalize (lg_sl ([.ref (ad 49)]) ++ List.replicate (1 - (lg_sl ([.ref (ad 49)])).length) Slot.unset).toArray = ls at hl ⊢
  have hl : lv_has ls 1 [(0, .ref (ad 49))] := hl
  unfold f_X1_keepForm at h
  refine lv_aload_n hx hb dX1_keepForm_0 rfl (lv_at hl 0 rfl) ?_
  refine zw_get (C := RX1) (T := TX1) (M := 7) (v := .int (μ.1 49 2)) hx hb hts hi_X1 hown hK hP kX_49 rfl 2 (by decide) hw0 rfl dX1_keepForm_1 ?_
  refine lv_aload_n hx hb dX1_keepForm_4 rfl (lv_at hl 0 rfl) ?_
  refine zw_get (C := RX1) (T := TX1) (M := 7) (v := .int (μ.1 49 3)) hx hb hts hi_X1 hown hK hP kX_49 rfl 3 (by decide) hw1 rfl dX1_keepForm_5 ?_
  refine lv_icmp_ge (tgt := 18) hx hb dX1_keepForm_8 (by decide) (fun c1 => ?_) (fun c1 => ?_)
  · have h := h.1 c1
    exact W.vret hx hb hr (fun t ht hW => ⟨⟨μ, rfl, h, PW.to hK hN hP hD t ht hW⟩, hS.F ht⟩) hS.2.2 dX1_keepForm_18
  · have h := h.2 c1
    refine lv_aload_n hx hb dX1_keepForm_11 rfl (lv_at hl 0 rfl) ?_
    refine zc_i (zc_runV (As := []) (rest := []) ⟨hx, hb, hml, hown, hts⟩ (c_X1_isKnown l D cc A ad rs  μ _ h) (cwV 0 hts gX1_keepForm_X1_isKnown rfl rfl rfl (by decide +kernel) ⟨Nat.le_of_ble_eq_true rfl, Nat.le_of_ble_eq_true rfl⟩) kX_49 rfl hK hN hP hD rfl hl.1 rfl (Nat.le_of_ble_eq_true rfl) dX1_keepForm_12 ⟨Nat.zero_le _, Nat.zero_le _⟩) hS (fun r2 μ3 H locs h hP hD hS => ?_)
    refine lv_if_eq (tgt := 19) hx hb dX1_keepForm_15 (by decide) (fun c4 => ?_) (fun c4 => ?_)
    · have h := h.1 c4
      refine lv_aload_n hx hb dX1_keepForm_19 rfl (lv_at hl 0 rfl) ?_
      refine zw_get (C := RX1) (T := TX1) (M := 7) (v := .ref (ad 50)) hx hb hts hi_X1 hown hK hP kX_49 rfl 0 (by decide) hw2 rfl dX1_keepForm_20 ?_
      refine zw_get (C := RX3) (T := TX3) (M := 6) (v := .ref (ad 51)) hx hb hts hi_X3 hown hK hP kX_50 rfl 0 (by decide) hw3 rfl dX1_keepForm_23 ?_
      refine lv_iconst (v := 0) hx hb dX1_keepForm_26 (by decide) ?_
      refine lv_aload_n hx hb dX1_keepForm_27 rfl (lv_at hl 0 rfl) ?_
      refine zw_get (C := RX1) (T := TX1) (M := 7) (v := .ref (ad 56)) hx hb hts hi_X1 hown hK hP kX_49 rfl 1 (by decide) hw4 rfl dX1_keepForm_28 ?_
      refine lv_aload_n hx hb dX1_keepForm_31 rfl (lv_at hl 0 rfl) ?_
      refine zw_get (C := RX1) (T := TX1) (M := 7) (v := .int (μ3.1 49 2)) hx hb hts hi_X1 hown hK hP kX_49 rfl 2 (by decide) hw0 rfl dX1_keepForm_32 ?_
      refine lv_iconst (v := 4) hx hb dX1_keepForm_35 (by decide) ?_
      refine lv_imul hx hb dX1_keepForm_36 ?_
      refine lv_iconst (v := 4) hx hb dX1_keepForm_37 (by decide) ?_
      obtain ⟨hc5, h⟩ := h
      refine zw_copyl hx hb (hml.trans hl.1.symm) hown hw5 hw6 hw7 hw8 hK hP hD hS kX_51 kX_56 hc5 (Nat.le_of_ble_eq_true rfl) (Nat.le_of_ble_eq_true rfl) dX1_keepForm_38 (fun μ6 H locs eμ6 hP hD hS => ?_)
      have h := h μ6 eμ6
      refine lv_aload_n hx hb dX1_keepForm_41 rfl (lv_at hl 0 rfl) ?_
      refine lv_dup hx hb dX1_keepForm_42 rfl ?_
      refine zw_get (C := RX1) (T := TX1) (M := 7) (v := .int (μ6.1 49 2)) hx hb hts hi_X1 hown hK hP kX_49 rfl 2 (by decide) hw0 rfl dX1_keepForm_43 ?_
      refine lv_iconst (v := 1) hx hb dX1_keepForm_46 (by decide) ?_
      refine lv_iadd hx hb dX1_keepForm_47 ?_
      refine zw_put (C := RX1) (T := TX1) (M := 7) hx hb hts hi_X1 tyX1 tyX1_ok nmX1 hown hK hP hD hS kX_49 rfl 2 (by decide) hw0 rfl rfl (Nat.le_of_ble_eq_true rfl) rfl dX1_keepForm_48 (fun μ7 H locs eμ7 hP hD hS => ?_)
      have h := h μ7 eμ7
      exact W.vret hx hb hr (fun t ht hW => ⟨⟨μ7, rfl, h, PW.to hK hN hP hD t ht hW⟩, hS.F ht⟩) hS.2.2 dX1_keepForm_51
    · have h := h.2 c4
      exact W.vret hx hb hr (fun t ht hW => ⟨⟨μ3, rfl, h, PW.to hK hN hP hD t ht hW⟩, hS.F ht⟩) hS.2.2 dX1_keepForm_18
set_option maxHeartbeats 4000000 in
set_option maxRecDepth 100000 in
theorem c_X5_hasBit (l : Launch) (D : va_G) (cc : Nat → ClassId) (A : Nat → Prop) (ad : Nat → Nat) (rs : va_W) (x0 : Int32) (x1 : Int32) (μ : Mem) (K : Int32 → Mem → Prop) (h : f_X5_hasBit x0 x1 μ K) : Met l yX5_hasBit wsX5_hasBit ({ frames := 0, cells := 0, slots := 0, locals := 0 }) (va_Pc [.int x0, .int x1] (PW shX 67 D cc A ad rs μ)) (va_Qi K (PW shX 67 D cc A ad rs) A) 0 0 A := by
  refine Met.ofW (cc := cX5_hasBit) (maxL := 2) (ret := (some .boolean)) (by decide) rfl ?_
  intro p e s m args below meth c s₁ BB hml hv
  obtain ⟨rfl, hP, hK, hD, hN⟩ := hv
  have hx := BB.exec
  have hb := BB.bytes
  have hr := BB.returns
  have hts := atoms_spec (ws := wsX5_hasBit) BB.pre
  have hown : s.vm.findClass RX5 = some m.cls := findClass_of_methodNamed BB.named
  have hlocks := BB.notSynchronized
  have hS : va_S A s.heap s.heap [] := va_S.rf
  have hl := lv_entry ([.int x0, .int x1]) (n := 2) (Nat.le_of_ble_eq_true rfl)
  rw [lg_entry_eq]
  generalize (lg_sl ([.int x0, .int x1]) ++ List.replicate (2 - (lg_sl ([.int x0, .int x1])).length) Slot.unset).toArray = ls at hl ⊢
  have hl : lv_has ls 2 [(0, .int x0), (1, .int x1)] := hl
  unfold f_X5_hasBit at h
  refine lv_iload_n hx hb dX5_hasBit_0 rfl (lv_at hl 0 rfl) ?_
  refine lv_iload_n hx hb dX5_hasBit_1 rfl (lv_at hl 1 rfl) ?_
  refine lv_ishr hx hb dX5_hasBit_2 ?_
  refine lv_iconst (v := 1) hx hb dX5_hasBit_3 (by decide) ?_
  refine lv_iand hx hb dX5_hasBit_4 ?_
  refine lv_iconst (v := 1) hx hb dX5_hasBit_5 (by decide) ?_
  refine lv_icmp_ne (tgt := 13) hx hb dX5_hasBit_6 (by decide) (fun c1 => ?_) (fun c1 => ?_)
  · have h := h.1 c1
    refine lv_iconst (v := 0) hx hb dX5_hasBit_13 (by decide) ?_
    exact W.zret (ty := .boolean) (v := 0) hx hb hr rfl (fun t ht hW => ⟨⟨0, μ, rfl, h, PW.to hK hN hP hD t ht hW⟩, hS.F ht⟩) hS.2.2 dX5_hasBit_14
  · have h := h.2 c1
    refine lv_iconst (v := 1) hx hb dX5_hasBit_9 (by decide) ?_
    refine lv_goto (tgt := 14) hx hb dX5_hasBit_10 (by decide) ?_
    exact W.zret (ty := .boolean) (v := 1) hx hb hr rfl (fun t ht hW => ⟨⟨1, μ, rfl, h, PW.to hK hN hP hD t ht hW⟩, hS.F ht⟩) hS.2.2 dX5_hasBit_14
set_option maxHeartbeats 4000000 in
set_option maxRecDepth 100000 in
theorem c_X1_isRepeat (l : Launch) (D : va_G) (cc : Nat → ClassId) (A : Nat → Prop) (ad : Nat → Nat) (rs : va_W) (x1 : Int32) (x2 : Int32) (μ : Mem) (K : Int32 → Mem → Prop) (h : f_X1_isRepeat x1 x2 μ K) : Met l yX1_isRepeat wsX1_isRepeat ({ frames := 1, cells := 0, slots := 0, locals := 21 }) (va_Pc [.ref (ad 49), .int x1, .int x2] (PW shX 67 D cc A ad rs μ)) (va_Qi K (PW shX 67 D cc A ad rs) A) 0 0 A := by
  refine Met.ofW (cc := cX1_isRepeat) (maxL := 3) (ret := (some .boolean)) (by decide) rfl ?_
  intro p e s m args below meth c s₁ BB hml hv
  obtain ⟨rfl, hP, hK, hD, hN⟩ := hv
  have hx := BB.exec
  have hb := BB.bytes
  have hr := BB.returns
  have hts := atoms_spec (ws := wsX1_isRepeat) BB.pre
  have hown : s.vm.findClass RX1 = some m.cls := findClass_of_methodNamed BB.named
  have hlocks := BB.notSynchronized
  have hi_X1 : ∀ w ∈ u_ws RX1 TX1 7, w ∈ wsX1_isRepeat := by decide +kernel
  have hw0 := hts (.fieldLink RX1 38 "FeatureClashes$Outcomes" "rivals" "[I") (by decide +kernel)
  have hw1 := hts (.initialized RX5) (by decide +kernel)
  have hw2 := hts (.static yX5_hasBit) (by decide +kernel)
  have hw3 := hts (.fieldLink RX1 34 "FeatureClashes$Outcomes" "earlier" "[I") (by decide +kernel)
  have hS : va_S A s.heap s.heap [] := va_S.rf
  have hl := lv_entry ([.ref (ad 49), .int x1, .int x2]) (n := 3) (Nat.le_of_ble_eq_true rfl)
  rw [lg_entry_eq]
  generalize (lg_sl ([.ref (ad 49), .int x1, .int x2]) ++ List.replicate (3 - (lg_sl ([.ref (ad 49), .int x1, .int x2])).length) Slot.unset).toArray = ls at hl ⊢
  have hl : lv_has ls 3 [(0, .ref (ad 49)), (1, .int x1), (2, .int x2)] := hl
  unfold f_X1_isRepeat at h
  refine lv_iload_n hx hb dX1_isRepeat_0 rfl (lv_at hl 1 rfl) ?_
  refine lv_iload_n hx hb dX1_isRepeat_1 rfl (lv_at hl 2 rfl) ?_
  refine lv_icmp_le (tgt := 35) hx hb dX1_isRepeat_2 (by decide) (fun c1 => ?_) (fun c1 => ?_)
  · have h := h.1 c1
    refine lv_iconst (v := 0) hx hb dX1_isRepeat_35 (by decide) ?_
    exact W.zret (ty := .boolean) (v := 0) hx hb hr rfl (fun t ht hW => ⟨⟨0, μ, rfl, h, PW.to hK hN hP hD t ht hW⟩, hS.F ht⟩) hS.2.2 dX1_isRepeat_36
  · have h := h.2 c1
    refine lv_aload_n hx hb dX1_isRepeat_5 rfl (lv_at hl 0 rfl) ?_
    refine zw_get (C := RX1) (T := TX1) (M := 7) (v := .ref (ad 66)) hx hb hts hi_X1 hown hK hP kX_49 rfl 6 (by decide) hw0 rfl dX1_isRepeat_6 ?_
    refine lv_iload_n hx hb dX1_isRepeat_9 rfl (lv_at hl 1 rfl) ?_
    obtain ⟨hi2, h⟩ := h
    refine zw_iald hx hb hK hP kX_66 hi2 dX1_isRepeat_10 ?_
    refine lv_iload_n hx hb dX1_isRepeat_11 rfl (lv_at hl 2 rfl) ?_
    refine zc_i (zc_runSN (As := [.int (μ.1 66 (x1 : Int32).toNatClampNeg), .int x2]) (rest := []) ⟨hx, hb, hml, hown, hts⟩ (c_X5_hasBit l D cc A ad rs (μ.1 66 (x1 : Int32).toNatClampNeg) x2 μ _ h) ⟨va_cnB (host := "FeatureClashes") 2 hts gX1_isRepeat_X5_hasBit_n91 rfl rfl rfl (hN 10 _ rfl) hw1 (by decide +kernel) ⟨Nat.le_of_ble_eq_true rfl, Nat.le_of_ble_eq_true rfl⟩, hw2, trivial⟩ hK hN hP hD rfl hl.1 rfl (Nat.le_of_ble_eq_true rfl) dX1_isRepeat_12 ⟨Nat.zero_le _, Nat.zero_le _⟩) hS (fun r3 μ4 H locs h hP hD hS => ?_)
    refine lv_if_ne (tgt := 35) hx hb dX1_isRepeat_15 (by decide) (fun c5 => ?_) (fun c5 => ?_)
    · have h := h.1 c5
      refine lv_iconst (v := 0) hx hb dX1_isRepeat_35 (by decide) ?_
      exact W.zret (ty := .boolean) (v := 0) hx hb hr rfl (fun t ht hW => ⟨⟨0, μ4, rfl, h, PW.to hK hN hP hD t ht hW⟩, hS.F ht⟩) hS.2.2 dX1_isRepeat_36
    · have h := h.2 c5
      refine lv_aload_n hx hb dX1_isRepeat_18 rfl (lv_at hl 0 rfl) ?_
      refine zw_get (C := RX1) (T := TX1) (M := 7) (v := .ref (ad 65)) hx hb hts hi_X1 hown hK hP kX_49 rfl 5 (by decide) hw3 rfl dX1_isRepeat_19 ?_
      refine lv_iload_n hx hb dX1_isRepeat_22 rfl (lv_at hl 2 rfl) ?_
      obtain ⟨hi6, h⟩ := h
      refine zw_iald hx hb hK hP kX_65 hi6 dX1_isRepeat_23 ?_
      refine lv_iload_n hx hb dX1_isRepeat_24 rfl (lv_at hl 1 rfl) ?_
      refine zc_i (zc_runSN (As := [.int (μ4.1 65 (x2 : Int32).toNatClampNeg), .int x1]) (rest := []) ⟨hx, hb, hml, hown, hts⟩ (c_X5_hasBit l D cc A ad rs (μ4.1 65 (x2 : Int32).toNatClampNeg) x1 μ4 _ h) ⟨va_cnB (host := "FeatureClashes") 2 hts gX1_isRepeat_X5_hasBit_n91 rfl rfl rfl (hN 10 _ rfl) hw1 (by decide +kernel) ⟨Nat.le_of_ble_eq_true rfl, Nat.le_of_ble_eq_true rfl⟩, hw2, trivial⟩ hK hN hP hD rfl hl.1 rfl (Nat.le_of_ble_eq_true rfl) dX1_isRepeat_25 ⟨Nat.zero_le _, Nat.zero_le _⟩) hS (fun r7 μ8 H locs h hP hD hS => ?_)
      refine lv_if_ne (tgt := 35) hx hb dX1_isRepeat_28 (by decide) (fun c9 => ?_) (fun c9 => ?_)
      · have h := h.1 c9
        refine lv_iconst (v := 0) hx hb dX1_isRepeat_35 (by decide) ?_
        exact W.zret (ty := .boolean) (v := 0) hx hb hr rfl (fun t ht hW => ⟨⟨0, μ8, rfl, h, PW.to hK hN hP hD t ht hW⟩, hS.F ht⟩) hS.2.2 dX1_isRepeat_36
      · have h := h.2 c9
        refine lv_iconst (v := 1) hx hb dX1_isRepeat_31 (by decide) ?_
        refine lv_goto (tgt := 36) hx hb dX1_isRepeat_32 (by decide) ?_
        exact W.zret (ty := .boolean) (v := 1) hx hb hr rfl (fun t ht hW => ⟨⟨1, μ8, rfl, h, PW.to hK hN hP hD t ht hW⟩, hS.F ht⟩) hS.2.2 dX1_isRepeat_36
set_option maxHeartbeats 4000000 in
set_option maxRecDepth 100000 in
theorem c_X5_putOn (l : Launch) (D : va_G) (cc : Nat → ClassId) (A : Nat → Prop) (ad : Nat → Nat) (rs : va_W) (p0 : Nat) (hp0 : isI shX 67 p0 32) (p1 : Nat) (hp1 : isI shX 67 p1 32) (p2 : Nat) (hp2 : isI shX 67 p2 32) (μ : Mem) (K : Mem → Prop) (h : f_X5_putOn p0 p1 p2 μ K) : Met l yX5_putOn wsX5_putOn ({ frames := 0, cells := 0, slots := 0, locals := 0 }) (va_Pc [.ref (ad p0), .ref (ad p1), .ref (ad p2)] (PW shX 67 D cc A ad rs μ)) (va_Qv K (PW shX 67 D cc A ad rs) A) 0 0 A := by
  refine Met.ofW (cc := cX5_putOn) (maxL := 4) (ret := none) (by decide) rfl ?_
  intro p e s m args below meth c s₁ BB hml hv
  obtain ⟨rfl, hP, hK, hD, hN⟩ := hv
  have hx := BB.exec
  have hb := BB.bytes
  have hr := BB.returns
  have hts := atoms_spec (ws := wsX5_putOn) BB.pre
  have hown : s.vm.findClass RX5 = some m.cls := findClass_of_methodNamed BB.named
  have hlocks := BB.notSynchronized
  have hS : va_S A s.heap s.heap [] := va_S.rf
  have hl := lv_entry ([.ref (ad p0), .ref (ad p1), .ref (ad p2)]) (n := 4) (Nat.le_of_ble_eq_true rfl)
  rw [lg_entry_eq]
  generalize (lg_sl ([.ref (ad p0), .ref (ad p1), .ref (ad p2)]) ++ List.replicate (4 - (lg_sl ([.ref (ad p0), .ref (ad p1), .ref (ad p2)])).length) Slot.unset).toArray = ls at hl ⊢
  have hl : lv_has ls 4 [(0, .ref (ad p0)), (1, .ref (ad p1)), (2, .ref (ad p2))] := hl
  unfold f_X5_putOn at h
  refine (fun h => ?main) (h (fun b3 μ => ∀ (H1 : Heap) (locs : List Loc) (ls : Array Slot), va_P D vwCl (wW shX 67 cc ad μ ++ rs) H1 → va_D A (wW shX 67 cc ad μ ++ rs) → va_S A s.heap H1 locs → lv_has ls 4 [(0, .ref (ad p0)), (1, .ref (ad p1)), (2, .ref (ad p2)), (3, .int b3)] → W p l e (headSpec wsX5_putOn ({ frames := 0, cells := 0, slots := 0, locals := 0 })).room s m ([.ref (ad p0), .ref (ad p1), .ref (ad p2)] : List Value).toArray below meth c H1 locs 0 0 (MQ below (va_Qv K (PW shX 67 D cc A ad rs) A) ([.ref (ad p0), .ref (ad p1), .ref (ad p2)] : List Value).toArray s 0 0 A) (F0 m 2 ls ([]))) (fun b3 z0 z1 μ => ∀ (H1 : Heap) (locs : List Loc) (ls : Array Slot), va_P D vwCl (wW shX 67 cc ad μ ++ rs) H1 → va_D A (wW shX 67 cc ad μ ++ rs) → va_S A s.heap H1 locs → lv_has ls 4 [(0, .ref (ad p0)), (1, .ref (ad p1)), (2, .ref (ad p2)), (3, .int b3)] → W p l e (headSpec wsX5_putOn ({ frames := 0, cells := 0, slots := 0, locals := 0 })).room s m ([.ref (ad p0), .ref (ad p1), .ref (ad p2)] : List Value).toArray below meth c H1 locs 0 0 (MQ below (va_Qv K (PW shX 67 D cc A ad rs) A) ([.ref (ad p0), .ref (ad p1), .ref (ad p2)] : List Value).toArray s 0 0 A) (F0 m 27 ls ([.int z0, .int z1, .ref (ad p2)]))) ?b2 ?b27)
  case main =>
      refine lv_iconst (v := 0) hx hb dX5_putOn_0 (by decide) ?_
      refine lv_istore_n (lv' := [(3, .int 0), (0, .ref (ad p0)), (1, .ref (ad p1)), (2, .ref (ad p2))]) hx hb dX5_putOn_1 rfl hl (by decide) rfl (fun ls hl => ?_)
      exact h _ _ _ hP hD hS (lv_sub hl [1, 2, 3, 0] rfl)
  case b2 =>
    intro b3 μ h H locs ls hP hD hS hl
    refine lv_iload_n hx hb dX5_putOn_2 rfl (lv_at hl 3 rfl) ?_
    refine lv_bipush (v := 32) hx hb dX5_putOn_3 (by decide) ?_
    refine lv_icmp_ge (tgt := 34) hx hb dX5_putOn_5 (by decide) (fun c1 => ?_) (fun c1 => ?_)
    · have h := h.1 c1
      exact W.vret hx hb hr (fun t ht hW => ⟨⟨μ, rfl, h, PW.to hK hN hP hD t ht hW⟩, hS.F ht⟩) hS.2.2 dX5_putOn_34
    · have h := h.2 c1
      refine lv_aload_n hx hb dX5_putOn_8 rfl (lv_at hl 2 rfl) ?_
      refine lv_iload_n hx hb dX5_putOn_9 rfl (lv_at hl 3 rfl) ?_
      refine lv_aload_n hx hb dX5_putOn_10 rfl (lv_at hl 1 rfl) ?_
      refine lv_iload_n hx hb dX5_putOn_11 rfl (lv_at hl 3 rfl) ?_
      obtain ⟨hi2, h⟩ := h
      refine zw_iald hx hb hK hP hp1 hi2 dX5_putOn_12 ?_
      refine lv_bipush (v := (-2)) hx hb dX5_putOn_13 (by decide) ?_
      refine lv_icmp_ne (tgt := 24) hx hb dX5_putOn_15 (by decide) (fun c3 => ?_) (fun c3 => ?_)
      · have h := h.1 c3
        refine lv_aload_n hx hb dX5_putOn_24 rfl (lv_at hl 1 rfl) ?_
        refine lv_iload_n hx hb dX5_putOn_25 rfl (lv_at hl 3 rfl) ?_
        obtain ⟨hi4, h⟩ := h
        refine zw_iald hx hb hK hP hp1 hi4 dX5_putOn_26 ?_
        exact h _ _ _ hP hD hS (lv_sub hl [0, 1, 2, 3] rfl)
      · have h := h.2 c3
        refine lv_aload_n hx hb dX5_putOn_18 rfl (lv_at hl 0 rfl) ?_
        refine lv_iload_n hx hb dX5_putOn_19 rfl (lv_at hl 3 rfl) ?_
        obtain ⟨hi5, h⟩ := h
        refine zw_iald hx hb hK hP hp0 hi5 dX5_putOn_20 ?_
        refine lv_goto (tgt := 27) hx hb dX5_putOn_21 (by decide) ?_
        exact h _ _ _ hP hD hS (lv_sub hl [0, 1, 2, 3] rfl)
  case b27 =>
    intro b3 z0 z1 μ h H locs ls hP hD hS hl
    obtain ⟨hi6, h⟩ := h
    refine zw_iast hx hb hK hP hD hS hp2 hi6 dX5_putOn_27 (fun μ7 H locs eμ7 hP hD hS => ?_)
    have h := h μ7 eμ7
    obtain ⟨y8, ey8⟩ : ∃ y : Int32, y = b3 + 1 := ⟨_, rfl⟩
    have h := h y8 ey8
    refine lv_iinc (v := y8) (lv' := [(3, .int y8), (0, .ref (ad p0)), (1, .ref (ad p1)), (2, .ref (ad p2))]) hx hb dX5_putOn_28 hl (k := 3) rfl (by rw [ey8]; rfl) (by decide) rfl (fun ls hl => ?_)
    refine lv_goto (tgt := 2) hx hb dX5_putOn_31 (by decide) ?_
    exact h _ _ _ hP hD hS (lv_sub hl [1, 2, 3, 0] rfl)
set_option maxHeartbeats 4000000 in
set_option maxRecDepth 100000 in
theorem c_X1_walkOrders (l : Launch) (D : va_G) (cc : Nat → ClassId) (A : Nat → Prop) (ad : Nat → Nat) (rs : va_W) : ∀ (d : Nat) (O1 : Nat) (hO1 : isSetup O1) (x2 : Int32) (x3 : Int32) (x4 : Int32) (μ : Mem) (K : Mem → Prop) (h : f_X1_walkOrders d O1 x2 x3 x4 μ K), Met l yX1_walkOrders wsX1_walkOrders ({ frames := 4 + d, cells := 0, slots := 0, locals := 100 + d * 26 }) (va_Pc [.ref (ad 49), .ref (ad O1), .int x2, .int x3, .int x4] (PW shX 67 D cc A ad rs μ)) (va_Qv K (PW shX 67 D cc A ad rs) A) 0 0 A := by
  intro d
  induction d with
  | zero =>
    intro O1 hO1 x2 x3 x4 μ K h
    exact absurd h (by simp [f_X1_walkOrders])
  | succ d ih =>
    intro O1 hO1 x2 x3 x4 μ K h
    refine Met.ofW (cc := cX1_walkOrders) (maxL := 7) (ret := none) (by decide) rfl ?_
    intro p e s m args below meth c s₁ BB hml hv
    obtain ⟨rfl, hP, hK, hD, hN⟩ := hv
    have hx := BB.exec
    have hb := BB.bytes
    have hr := BB.returns
    have hts := atoms_spec (ws := wsX1_walkOrders) BB.pre
    have hown : s.vm.findClass RX1 = some m.cls := findClass_of_methodNamed BB.named
    have hlocks := BB.notSynchronized
    have hi_X1 : ∀ w ∈ u_ws RX1 TX1 7, w ∈ wsX1_walkOrders := by decide +kernel
    have hi_X2 : ∀ w ∈ u_ws RX2 TX2 7, w ∈ wsX1_walkOrders := by decide +kernel
    have hw0 := hts (.fieldLink RX1 12 "FeatureClashes$Outcomes" "shape" "LFeatureClashes$Shape;") (by decide +kernel)
    have hw1 := hts (.fieldLink RX1 31 "FeatureClashes$Outcomes" "stages" "[[I") (by decide +kernel)
    have hw2 := hts (.fieldLink RX1 78 "FeatureClashes$Setup" "states" "I") (by decide +kernel)
    have hw3 := hts (.fieldLink RX1 81 "FeatureClashes$Setup" "letters" "I") (by decide +kernel)
    have hw4 := hts (.fieldLink RX1 68 "FeatureClashes$Setup" "featureCount" "I") (by decide +kernel)
    have hw5 := hts (.fieldLink RX1 22 "FeatureClashes$Outcomes" "kinds" "I") (by decide +kernel)
    have hw6 := hts (.fieldLink RX1 26 "FeatureClashes$Outcomes" "limit" "I") (by decide +kernel)
    have hw7 := hts (.initialized RX5) (by decide +kernel)
    have hw8 := hts (.static yX5_hasBit) (by decide +kernel)
    have hw9 := hts (.fieldLink RX1 34 "FeatureClashes$Outcomes" "earlier" "[I") (by decide +kernel)
    have hw10 := hts (.fieldLink RX1 71 "FeatureClashes$Setup" "edits" "[[I") (by decide +kernel)
    have hw11 := hts (.static yX5_putOn) (by decide +kernel)
    have hS : va_S A s.heap s.heap [] := va_S.rf
    have hl := lv_entry ([.ref (ad 49), .ref (ad O1), .int x2, .int x3, .int x4]) (n := 7) (Nat.le_of_ble_eq_true rfl)
    rw [lg_entry_eq]
    generalize (lg_sl ([.ref (ad 49), .ref (ad O1), .int x2, .int x3, .int x4]) ++ List.replicate (7 - (lg_sl ([.ref (ad 49), .ref (ad O1), .int x2, .int x3, .int x4])).length) Slot.unset).toArray = ls at hl ⊢
    have hl : lv_has ls 7 [(0, .ref (ad 49)), (1, .ref (ad O1)), (2, .int x2), (3, .int x3), (4, .int x4)] := hl
    rw [f_X1_walkOrders] at h
    refine (fun h => ?main) (h (fun b2 μ => ∀ (H1 : Heap) (locs : List Loc) (ls : Array Slot), va_P D vwCl (wW shX 67 cc ad μ ++ rs) H1 → va_D A (wW shX 67 cc ad μ ++ rs) → va_S A s.heap H1 locs → lv_has ls 7 [(0, .ref (ad 49)), (1, .ref (ad O1)), (2, .int b2)] → W p l e (headSpec wsX1_walkOrders ({ frames := 4 + (d + 1), cells := 0, slots := 0, locals := 100 + (d + 1) * 26 })).room s m ([.ref (ad 49), .ref (ad O1), .int x2, .int x3, .int x4] : List Value).toArray below meth c H1 locs 0 0 (MQ below (va_Qv K (PW shX 67 D cc A ad rs) A) ([.ref (ad 49), .ref (ad O1), .int x2, .int x3, .int x4] : List Value).toArray s 0 0 A) (F0 m 10 ls ([]))) (fun b2 b3 b4 b5 μ => ∀ (H1 : Heap) (locs : List Loc) (ls : Array Slot), va_P D vwCl (wW shX 67 cc ad μ ++ rs) H1 → va_D A (wW shX 67 cc ad μ ++ rs) → va_S A s.heap H1 locs → lv_has ls 7 [(0, .ref (ad 49)), (1, .ref (ad O1)), (2, .int b2), (3, .int b3), (4, .int b4), (5, .int b5)] → W p l e (headSpec wsX1_walkOrders ({ frames := 4 + (d + 1), cells := 0, slots := 0, locals := 100 + (d + 1) * 26 })).room s m ([.ref (ad 49), .ref (ad O1), .int x2, .int x3, .int x4] : List Value).toArray below meth c H1 locs 0 0 (MQ below (va_Qv K (PW shX 67 D cc A ad rs) A) ([.ref (ad 49), .ref (ad O1), .int x2, .int x3, .int x4] : List Value).toArray s 0 0 A) (F0 m 39 ls ([]))) (fun b2 b3 b4 b5 μ => ∀ (H1 : Heap) (locs : List Loc) (ls : Array Slot), va_P D vwCl (wW shX 67 cc ad μ ++ rs) H1 → va_D A (wW shX 67 cc ad μ ++ rs) → va_S A s.heap H1 locs → lv_has ls 7 [(0, .ref (ad 49)), (1, .ref (ad O1)), (2, .int b2), (3, .int b3), (4, .int b4), (5, .int b5)] → W p l e (headSpec wsX1_walkOrders ({ frames := 4 + (d + 1), cells := 0, slots := 0, locals := 100 + (d + 1) * 26 })).room s m ([.ref (ad 49), .ref (ad O1), .int x2, .int x3, .int x4] : List Value).toArray below meth c H1 locs 0 0 (MQ below (va_Qv K (PW shX 67 D cc A ad rs) A) ([.ref (ad 49), .ref (ad O1), .int x2, .int x3, .int x4] : List Value).toArray s 0 0 A) (F0 m 84 ls ([]))) (fun b2 b3 b4 b5 z0 μ => ∀ (H1 : Heap) (locs : List Loc) (ls : Array Slot), va_P D vwCl (wW shX 67 cc ad μ ++ rs) H1 → va_D A (wW shX 67 cc ad μ ++ rs) → va_S A s.heap H1 locs → lv_has ls 7 [(0, .ref (ad 49)), (1, .ref (ad O1)), (2, .int b2), (3, .int b3), (4, .int b4), (5, .int b5)] → W p l e (headSpec wsX1_walkOrders ({ frames := 4 + (d + 1), cells := 0, slots := 0, locals := 100 + (d + 1) * 26 })).room s m ([.ref (ad 49), .ref (ad O1), .int x2, .int x3, .int x4] : List Value).toArray below meth c H1 locs 0 0 (MQ below (va_Qv K (PW shX 67 D cc A ad rs) A) ([.ref (ad 49), .ref (ad O1), .int x2, .int x3, .int x4] : List Value).toArray s 0 0 A) (F0 m 85 ls ([.int z0]))) (fun b2 b3 b4 b5 μ => ∀ (H1 : Heap) (locs : List Loc) (ls : Array Slot), va_P D vwCl (wW shX 67 cc ad μ ++ rs) H1 → va_D A (wW shX 67 cc ad μ ++ rs) → va_S A s.heap H1 locs → lv_has ls 7 [(0, .ref (ad 49)), (1, .ref (ad O1)), (2, .int b2), (3, .int b3), (4, .int b4), (5, .int b5)] → W p l e (headSpec wsX1_walkOrders ({ frames := 4 + (d + 1), cells := 0, slots := 0, locals := 100 + (d + 1) * 26 })).room s m ([.ref (ad 49), .ref (ad O1), .int x2, .int x3, .int x4] : List Value).toArray below meth c H1 locs 0 0 (MQ below (va_Qv K (PW shX 67 D cc A ad rs) A) ([.ref (ad 49), .ref (ad O1), .int x2, .int x3, .int x4] : List Value).toArray s 0 0 A) (F0 m 145 ls ([]))) ?b10 ?b39 ?b84 ?b85 ?b145)
    case main =>
        refine lv_iload_n hx hb dX1_walkOrders_0 rfl (lv_at hl 3 rfl) ?_
        refine lv_if_eq (tgt := 10) hx hb dX1_walkOrders_1 (by decide) (fun c1 => ?_) (fun c1 => ?_)
        · have h := h.1 c1
          exact h _ _ _ hP hD hS (lv_sub hl [0, 1, 2] rfl)
        · have h := h.2 c1
          refine lv_iload_n hx hb dX1_walkOrders_4 rfl (lv_at hl 2 rfl) ?_
          refine lv_bipush (v := 6) hx hb dX1_walkOrders_5 (by decide) ?_
          refine lv_icmp_lt (tgt := 36) hx hb dX1_walkOrders_7 (by decide) (fun c2 => ?_) (fun c2 => ?_)
          · have h := h.1 c2
            refine lv_iconst (v := 0) hx hb dX1_walkOrders_36 (by decide) ?_
            refine lv_istore (lv' := [(5, .int 0), (0, .ref (ad 49)), (1, .ref (ad O1)), (2, .int x2), (3, .int x3), (4, .int x4)]) hx hb dX1_walkOrders_37 hl (by decide) rfl (fun ls hl => ?_)
            exact h _ _ _ hP hD hS (lv_sub hl [1, 2, 3, 4, 5, 0] rfl)
          · have h := h.2 c2
            exact h _ _ _ hP hD hS (lv_sub hl [0, 1, 2] rfl)
    case b10 =>
      intro b2 μ h H locs ls hP hD hS hl
      refine lv_aload_n hx hb dX1_walkOrders_10 rfl (lv_at hl 0 rfl) ?_
      refine zw_get (C := RX1) (T := TX1) (M := 7) (v := .ref (ad 50)) hx hb hts hi_X1 hown hK hP kX_49 rfl 0 (by decide) hw0 rfl dX1_walkOrders_11 ?_
      refine lv_aload_n hx hb dX1_walkOrders_14 rfl (lv_at hl 0 rfl) ?_
      refine zw_get (C := RX1) (T := TX1) (M := 7) (v := .ref (ad 57)) hx hb hts hi_X1 hown hK hP kX_49 rfl 4 (by decide) hw1 rfl dX1_walkOrders_15 ?_
      refine lv_iload_n hx hb dX1_walkOrders_18 rfl (lv_at hl 2 rfl) ?_
      obtain ⟨hi3, h⟩ := h
      refine zw_aalI hx hb hK hP kX_57 hi3 dX1_walkOrders_19 ?_
      refine W.eq (g2 := F0 m 20 ls ([.ref (ad (58 + (b2 : Int32).toNatClampNeg)), .ref (ad 50)])) rfl ?_
      refine lv_aload_n hx hb dX1_walkOrders_20 rfl (lv_at hl 1 rfl) ?_
      refine zw_get (C := RX2) (T := TX2) (M := 7) (v := .int (μ.1 O1 0)) hx hb hts hi_X2 hown hK hP (oS hO1) rfl 0 (by decide) hw2 rfl dX1_walkOrders_21 ?_
      refine lv_aload_n hx hb dX1_walkOrders_24 rfl (lv_at hl 1 rfl) ?_
      refine zw_get (C := RX2) (T := TX2) (M := 7) (v := .int (μ.1 O1 1)) hx hb hts hi_X2 hown hK hP (oS hO1) rfl 1 (by decide) hw3 rfl dX1_walkOrders_25 ?_
      refine zc_v (zc_runV (As := [.ref (ad (58 + (b2 : Int32).toNatClampNeg)), .int (μ.1 O1 0), .int (μ.1 O1 1)]) (rest := []) ⟨hx, hb, hml, hown, hts⟩ (c_X3_take l D cc A ad rs (58 + (b2 : Int32).toNatClampNeg) (iSt (zw_lt hi3)) (μ.1 O1 0) (μ.1 O1 1) μ _ h) (cwV 3 hts gX1_walkOrders_X3_take rfl rfl rfl (by decide +kernel) ⟨Nat.le_add_right_of_le (m := 4) (k := d + 1) (Nat.le_of_ble_eq_true rfl), Nat.le_add_right_of_le (m := 100) (k := (d + 1) * 26) (Nat.le_of_ble_eq_true rfl)⟩) kX_50 rfl hK hN hP hD rfl hl.1 rfl (Nat.le_of_ble_eq_true rfl) dX1_walkOrders_28 ⟨Nat.zero_le _, Nat.zero_le _⟩) hS (fun μ5 H locs h hP hD hS => ?_)
      refine lv_aload_n hx hb dX1_walkOrders_31 rfl (lv_at hl 0 rfl) ?_
      refine zc_v (zc_runV (As := []) (rest := []) ⟨hx, hb, hml, hown, hts⟩ (c_X1_keepForm l D cc A ad rs  μ5 _ h) (cwV 0 hts gX1_walkOrders_X1_keepForm rfl rfl rfl (by decide +kernel) ⟨Nat.le_add_right_of_le (m := 4) (k := d + 1) (Nat.le_of_ble_eq_true rfl), Nat.le_add_right_of_le (m := 100) (k := (d + 1) * 26) (Nat.le_of_ble_eq_true rfl)⟩) kX_49 rfl hK hN hP hD rfl hl.1 rfl (Nat.le_of_ble_eq_true rfl) dX1_walkOrders_32 ⟨Nat.zero_le _, Nat.zero_le _⟩) hS (fun μ7 H locs h hP hD hS => ?_)
      exact W.vret hx hb hr (fun t ht hW => ⟨⟨μ7, rfl, h, PW.to hK hN hP hD t ht hW⟩, hS.F ht⟩) hS.2.2 dX1_walkOrders_35
    case b39 =>
      intro b2 b3 b4 b5 μ h H locs ls hP hD hS hl
      refine lv_iload hx hb dX1_walkOrders_39 (lv_at hl 5 rfl) ?_
      refine lv_aload_n hx hb dX1_walkOrders_41 rfl (lv_at hl 1 rfl) ?_
      refine zw_get (C := RX2) (T := TX2) (M := 7) (v := .int (μ.1 O1 2)) hx hb hts hi_X2 hown hK hP (oS hO1) rfl 2 (by decide) hw4 rfl dX1_walkOrders_42 ?_
      refine lv_icmp_ge (tgt := 151) hx hb dX1_walkOrders_45 (by decide) (fun c8 => ?_) (fun c8 => ?_)
      · have h := h.1 c8
        exact W.vret hx hb hr (fun t ht hW => ⟨⟨μ, rfl, h, PW.to hK hN hP hD t ht hW⟩, hS.F ht⟩) hS.2.2 dX1_walkOrders_151
      · have h := h.2 c8
        refine lv_aload_n hx hb dX1_walkOrders_48 rfl (lv_at hl 0 rfl) ?_
        refine zw_get (C := RX1) (T := TX1) (M := 7) (v := .int (μ.1 49 2)) hx hb hts hi_X1 hown hK hP kX_49 rfl 2 (by decide) hw5 rfl dX1_walkOrders_49 ?_
        refine lv_aload_n hx hb dX1_walkOrders_52 rfl (lv_at hl 0 rfl) ?_
        refine zw_get (C := RX1) (T := TX1) (M := 7) (v := .int (μ.1 49 3)) hx hb hts hi_X1 hown hK hP kX_49 rfl 3 (by decide) hw6 rfl dX1_walkOrders_53 ?_
        refine lv_icmp_ge (tgt := 151) hx hb dX1_walkOrders_56 (by decide) (fun c9 => ?_) (fun c9 => ?_)
        · have h := h.1 c9
          exact W.vret hx hb hr (fun t ht hW => ⟨⟨μ, rfl, h, PW.to hK hN hP hD t ht hW⟩, hS.F ht⟩) hS.2.2 dX1_walkOrders_151
        · have h := h.2 c9
          refine lv_iload_n hx hb dX1_walkOrders_59 rfl (lv_at hl 3 rfl) ?_
          refine lv_iload hx hb dX1_walkOrders_60 (lv_at hl 5 rfl) ?_
          refine zc_i (zc_runSN (As := [.int b3, .int b5]) (rest := []) ⟨hx, hb, hml, hown, hts⟩ (c_X5_hasBit l D cc A ad rs b3 b5 μ _ h) ⟨va_cnB (host := "FeatureClashes") 2 hts gX1_walkOrders_X5_hasBit_n91 rfl rfl rfl (hN 10 _ rfl) hw7 (by decide +kernel) ⟨Nat.le_add_right_of_le (m := 4) (k := d + 1) (Nat.le_of_ble_eq_true rfl), Nat.le_add_right_of_le (m := 100) (k := (d + 1) * 26) (Nat.le_of_ble_eq_true rfl)⟩, hw8, trivial⟩ hK hN hP hD rfl hl.1 rfl (Nat.le_of_ble_eq_true rfl) dX1_walkOrders_62 ⟨Nat.zero_le _, Nat.zero_le _⟩) hS (fun r10 μ11 H locs h hP hD hS => ?_)
          refine lv_if_eq (tgt := 84) hx hb dX1_walkOrders_65 (by decide) (fun c12 => ?_) (fun c12 => ?_)
          · have h := h.1 c12
            exact h _ _ _ hP hD hS (lv_sub hl [0, 1, 2, 3, 4, 5] rfl)
          · have h := h.2 c12
            refine lv_aload_n hx hb dX1_walkOrders_68 rfl (lv_at hl 0 rfl) ?_
            refine zw_get (C := RX1) (T := TX1) (M := 7) (v := .ref (ad 65)) hx hb hts hi_X1 hown hK hP kX_49 rfl 5 (by decide) hw9 rfl dX1_walkOrders_69 ?_
            refine lv_iload hx hb dX1_walkOrders_72 (lv_at hl 5 rfl) ?_
            obtain ⟨hi13, h⟩ := h
            refine zw_iald hx hb hK hP kX_65 hi13 dX1_walkOrders_74 ?_
            refine lv_iload_n hx hb dX1_walkOrders_75 rfl (lv_at hl 3 rfl) ?_
            refine lv_iand hx hb dX1_walkOrders_76 ?_
            refine lv_if_ne (tgt := 84) hx hb dX1_walkOrders_77 (by decide) (fun c14 => ?_) (fun c14 => ?_)
            · have h := h.1 c14
              exact h _ _ _ hP hD hS (lv_sub hl [0, 1, 2, 3, 4, 5] rfl)
            · have h := h.2 c14
              refine lv_iconst (v := 1) hx hb dX1_walkOrders_80 (by decide) ?_
              refine lv_goto (tgt := 85) hx hb dX1_walkOrders_81 (by decide) ?_
              exact h _ _ _ hP hD hS (lv_sub hl [0, 1, 2, 3, 4, 5] rfl)
    case b84 =>
      intro b2 b3 b4 b5 μ h H locs ls hP hD hS hl
      refine lv_iconst (v := 0) hx hb dX1_walkOrders_84 (by decide) ?_
      exact h _ _ _ hP hD hS (lv_sub hl [0, 1, 2, 3, 4, 5] rfl)
    case b85 =>
      intro b2 b3 b4 b5 z0 μ h H locs ls hP hD hS hl
      refine lv_istore (lv' := [(6, .int z0), (0, .ref (ad 49)), (1, .ref (ad O1)), (2, .int b2), (3, .int b3), (4, .int b4), (5, .int b5)]) hx hb dX1_walkOrders_85 hl (by decide) rfl (fun ls hl => ?_)
      refine lv_iload hx hb dX1_walkOrders_87 (lv_at hl 0 rfl) ?_
      refine lv_if_eq (tgt := 145) hx hb dX1_walkOrders_89 (by decide) (fun c15 => ?_) (fun c15 => ?_)
      · have h := h.1 c15
        exact h _ _ _ hP hD hS (lv_sub hl [1, 2, 3, 4, 5, 6] rfl)
      · have h := h.2 c15
        refine lv_aload_n hx hb dX1_walkOrders_92 rfl (lv_at hl 1 rfl) ?_
        refine lv_iload hx hb dX1_walkOrders_93 (lv_at hl 5 rfl) ?_
        refine lv_iload hx hb dX1_walkOrders_95 (lv_at hl 6 rfl) ?_
        refine zc_i (zc_runV (As := [.int b4, .int b5]) (rest := []) ⟨hx, hb, hml, hown, hts⟩ (c_X1_isRepeat l D cc A ad rs b4 b5 μ _ h) (cwV 2 hts gX1_walkOrders_X1_isRepeat rfl rfl rfl (by decide +kernel) ⟨Nat.le_add_right_of_le (m := 4) (k := d + 1) (Nat.le_of_ble_eq_true rfl), Nat.le_add_right_of_le (m := 100) (k := (d + 1) * 26) (Nat.le_of_ble_eq_true rfl)⟩) kX_49 rfl hK hN hP hD rfl hl.1 rfl (Nat.le_of_ble_eq_true rfl) dX1_walkOrders_97 ⟨Nat.zero_le _, Nat.zero_le _⟩) hS (fun r16 μ17 H locs h hP hD hS => ?_)
        refine lv_if_ne (tgt := 145) hx hb dX1_walkOrders_100 (by decide) (fun c18 => ?_) (fun c18 => ?_)
        · have h := h.1 c18
          exact h _ _ _ hP hD hS (lv_sub hl [1, 2, 3, 4, 5, 6] rfl)
        · have h := h.2 c18
          refine lv_aload_n hx hb dX1_walkOrders_103 rfl (lv_at hl 1 rfl) ?_
          refine zw_get (C := RX1) (T := TX1) (M := 7) (v := .ref (ad 57)) hx hb hts hi_X1 hown hK hP kX_49 rfl 4 (by decide) hw1 rfl dX1_walkOrders_104 ?_
          refine lv_iload_n hx hb dX1_walkOrders_107 rfl (lv_at hl 3 rfl) ?_
          obtain ⟨hi19, h⟩ := h
          refine zw_aalI hx hb hK hP kX_57 hi19 dX1_walkOrders_108 ?_
          refine W.eq (g2 := F0 m 109 ls ([.ref (ad (58 + (b2 : Int32).toNatClampNeg))])) rfl ?_
          refine lv_aload_n hx hb dX1_walkOrders_109 rfl (lv_at hl 2 rfl) ?_
          refine zw_get (C := RX2) (T := TX2) (M := 7) (v := .ref (ad (O1+2))) hx hb hts hi_X2 hown hK hP (oS hO1) rfl 5 (by decide) hw10 rfl dX1_walkOrders_110 ?_
          refine lv_iload hx hb dX1_walkOrders_113 (lv_at hl 6 rfl) ?_
          obtain ⟨hi20, h⟩ := h
          refine zw_aalI hx hb hK hP (rS hO1) hi20 dX1_walkOrders_115 ?_
          refine W.eq (g2 := F0 m 116 ls ([.ref (ad ((O1+3) + (b5 : Int32).toNatClampNeg)), .ref (ad (58 + (b2 : Int32).toNatClampNeg))])) rfl ?_
          refine lv_aload_n hx hb dX1_walkOrders_116 rfl (lv_at hl 1 rfl) ?_
          refine zw_get (C := RX1) (T := TX1) (M := 7) (v := .ref (ad 57)) hx hb hts hi_X1 hown hK hP kX_49 rfl 4 (by decide) hw1 rfl dX1_walkOrders_117 ?_
          refine lv_iload_n hx hb dX1_walkOrders_120 rfl (lv_at hl 3 rfl) ?_
          refine lv_iconst (v := 1) hx hb dX1_walkOrders_121 (by decide) ?_
          refine lv_iadd hx hb dX1_walkOrders_122 ?_
          obtain ⟨hi21, h⟩ := h
          refine zw_aalI hx hb hK hP kX_57 hi21 dX1_walkOrders_123 ?_
          refine W.eq (g2 := F0 m 124 ls ([.ref (ad (58 + (b2 + 1 : Int32).toNatClampNeg)), .ref (ad ((O1+3) + (b5 : Int32).toNatClampNeg)), .ref (ad (58 + (b2 : Int32).toNatClampNeg))])) rfl ?_
          refine zc_v (zc_runSN (As := [.ref (ad (58 + (b2 : Int32).toNatClampNeg)), .ref (ad ((O1+3) + (b5 : Int32).toNatClampNeg)), .ref (ad (58 + (b2 + 1 : Int32).toNatClampNeg))]) (rest := []) ⟨hx, hb, hml, hown, hts⟩ (c_X5_putOn l D cc A ad rs (58 + (b2 : Int32).toNatClampNeg) (iSt (zw_lt hi19)) ((O1+3) + (b5 : Int32).toNatClampNeg) (iSr hO1 (zw_lt hi20)) (58 + (b2 + 1 : Int32).toNatClampNeg) (iSt (zw_lt hi21)) μ17 _ h) ⟨va_cnB (host := "FeatureClashes") 3 hts gX1_walkOrders_X5_putOn_n98 rfl rfl rfl (hN 9 _ rfl) hw7 (by decide +kernel) ⟨Nat.le_add_right_of_le (m := 4) (k := d + 1) (Nat.le_of_ble_eq_true rfl), Nat.le_add_right_of_le (m := 100) (k := (d + 1) * 26) (Nat.le_of_ble_eq_true rfl)⟩, hw11, trivial⟩ hK hN hP hD rfl hl.1 rfl (Nat.le_of_ble_eq_true rfl) dX1_walkOrders_124 ⟨Nat.zero_le _, Nat.zero_le _⟩) hS (fun μ23 H locs h hP hD hS => ?_)
          refine lv_aload_n hx hb dX1_walkOrders_127 rfl (lv_at hl 1 rfl) ?_
          refine lv_aload_n hx hb dX1_walkOrders_128 rfl (lv_at hl 2 rfl) ?_
          refine lv_iload_n hx hb dX1_walkOrders_129 rfl (lv_at hl 3 rfl) ?_
          refine lv_iconst (v := 1) hx hb dX1_walkOrders_130 (by decide) ?_
          refine lv_iadd hx hb dX1_walkOrders_131 ?_
          refine lv_iload_n hx hb dX1_walkOrders_132 rfl (lv_at hl 4 rfl) ?_
          refine lv_iconst (v := 1) hx hb dX1_walkOrders_133 (by decide) ?_
          refine lv_iload hx hb dX1_walkOrders_134 (lv_at hl 6 rfl) ?_
          refine lv_ishl hx hb dX1_walkOrders_136 ?_
          refine lv_iconst (v := (-1)) hx hb dX1_walkOrders_137 (by decide) ?_
          refine lv_ixor hx hb dX1_walkOrders_138 ?_
          refine lv_iand hx hb dX1_walkOrders_139 ?_
          refine lv_iload hx hb dX1_walkOrders_140 (lv_at hl 6 rfl) ?_
          refine zc_v (zc_runV (As := [.ref (ad O1), .int (b2 + 1), .int (b3 &&& ((1 <<< (b5 &&& 31)) ^^^ (-1))), .int b5]) (rest := []) ⟨hx, hb, hml, hown, hts⟩ (ih O1 hO1 (b2 + 1) (b3 &&& ((1 <<< (b5 &&& 31)) ^^^ (-1))) b5 μ23 _ h) (cwV 4 hts gX1_walkOrders_X1_walkOrders rfl rfl rfl (by decide +kernel) ⟨Nat.le_of_eq rfl, (by show 8 + (7 + 11) + (100 + d * 26) ≤ 100 + (d + 1) * 26; omega)⟩) kX_49 rfl hK hN hP hD rfl hl.1 rfl (Nat.le_of_ble_eq_true rfl) dX1_walkOrders_142 ⟨Nat.zero_le _, Nat.zero_le _⟩) hS (fun μ25 H locs h hP hD hS => ?_)
          exact h _ _ _ hP hD hS (lv_sub hl [1, 2, 3, 4, 5, 6] rfl)
    case b145 =>
      intro b2 b3 b4 b5 μ h H locs ls hP hD hS hl
      obtain ⟨y26, ey26⟩ : ∃ y : Int32, y = b5 + 1 := ⟨_, rfl⟩
      have h := h y26 ey26
      refine lv_iinc (v := y26) (lv' := [(5, .int y26), (0, .ref (ad 49)), (1, .ref (ad O1)), (2, .int b2), (3, .int b3), (4, .int b4)]) hx hb dX1_walkOrders_145 hl (k := 5) rfl (by rw [ey26]; rfl) (by decide) rfl (fun ls hl => ?_)
      refine lv_goto (tgt := 39) hx hb dX1_walkOrders_148 (by decide) ?_
      exact h _ _ _ hP hD hS (lv_sub hl [1, 2, 3, 4, 5, 0] rfl)
set_option maxHeartbeats 4000000 in
set_option maxRecDepth 100000 in
theorem c_X1_countKinds (l : Launch) (D : va_G) (cc : Nat → ClassId) (A : Nat → Prop) (ad : Nat → Nat) (rs : va_W) (O1 : Nat) (hO1 : isSetup O1) (x2 : Int32) (x3 : Int32) (μ : Mem) (K : Int32 → Mem → Prop) (h : f_X1_countKinds O1 x2 x3 μ K) : Met l yX1_countKinds wsX1_countKinds ({ frames := 13, cells := 0, slots := 0, locals := 334 }) (va_Pc [.ref (ad 49), .ref (ad O1), .int x2, .int x3] (PW shX 67 D cc A ad rs μ)) (va_Qi K (PW shX 67 D cc A ad rs) A) 0 0 A := by
  refine Met.ofW (cc := cX1_countKinds) (maxL := 5) (ret := (some .int)) (by decide) rfl ?_
  intro p e s m args below meth c s₁ BB hml hv
  obtain ⟨rfl, hP, hK, hD, hN⟩ := hv
  have hx := BB.exec
  have hb := BB.bytes
  have hr := BB.returns
  have hts := atoms_spec (ws := wsX1_countKinds) BB.pre
  have hown : s.vm.findClass RX1 = some m.cls := findClass_of_methodNamed BB.named
  have hlocks := BB.notSynchronized
  have hi_X1 : ∀ w ∈ u_ws RX1 TX1 7, w ∈ wsX1_countKinds := by decide +kernel
  have hi_X2 : ∀ w ∈ u_ws RX2 TX2 7, w ∈ wsX1_countKinds := by decide +kernel
  have hw0 := hts (.methodLink RX1 44 Lib.Math.min.name) (by decide +kernel)
  have hw1 := hts (.static Lib.Math.min.name) (by decide +kernel)
  have hw2 := hts (.initialized "java/lang/Math") (by decide +kernel)
  have hw3 := hts (.code Lib.Math.min.name Lib.Math.min.code 2 (some .int)) (by decide +kernel)
  have hw4 := hts (.fieldLink RX1 26 "FeatureClashes$Outcomes" "limit" "I") (by decide +kernel)
  have hw5 := hts (.fieldLink RX1 22 "FeatureClashes$Outcomes" "kinds" "I") (by decide +kernel)
  have hw6 := hts (.fieldLink RX1 54 "FeatureClashes$Setup" "base" "[I") (by decide +kernel)
  have hw7 := hts (.fieldLink RX1 31 "FeatureClashes$Outcomes" "stages" "[[I") (by decide +kernel)
  have hw8 := hts (.initialized RX5) (by decide +kernel)
  have hw9 := hts (.static yX5_copyRow) (by decide +kernel)
  have hw10 := hts (.fieldLink RX1 61 "FeatureClashes$Setup" "onSet" "I") (by decide +kernel)
  have hw11 := hts (.fieldLink RX1 34 "FeatureClashes$Outcomes" "earlier" "[I") (by decide +kernel)
  have hw12 := hts (.fieldLink RX1 41 "FeatureClashes$Setup" "earlier" "[I") (by decide +kernel)
  have hS : va_S A s.heap s.heap [] := va_S.rf
  have hl := lv_entry ([.ref (ad 49), .ref (ad O1), .int x2, .int x3]) (n := 5) (Nat.le_of_ble_eq_true rfl)
  rw [lg_entry_eq]
  generalize (lg_sl ([.ref (ad 49), .ref (ad O1), .int x2, .int x3]) ++ List.replicate (5 - (lg_sl ([.ref (ad 49), .ref (ad O1), .int x2, .int x3])).length) Slot.unset).toArray = ls at hl ⊢
  have hl : lv_has ls 5 [(0, .ref (ad 49)), (1, .ref (ad O1)), (2, .int x2), (3, .int x3)] := hl
  unfold f_X1_countKinds at h
  refine (fun h => ?main) (h (fun b2 b3 b4 μ => ∀ (H1 : Heap) (locs : List Loc) (ls : Array Slot), va_P D vwCl (wW shX 67 cc ad μ ++ rs) H1 → va_D A (wW shX 67 cc ad μ ++ rs) → va_S A s.heap H1 locs → lv_has ls 5 [(0, .ref (ad 49)), (1, .ref (ad O1)), (2, .int b2), (3, .int b3), (4, .int b4)] → W p l e (headSpec wsX1_countKinds ({ frames := 13, cells := 0, slots := 0, locals := 334 })).room s m ([.ref (ad 49), .ref (ad O1), .int x2, .int x3] : List Value).toArray below meth c H1 locs 0 0 (MQ below (va_Qi K (PW shX 67 D cc A ad rs) A) ([.ref (ad 49), .ref (ad O1), .int x2, .int x3] : List Value).toArray s 0 0 A) (F0 m 3 ls ([]))) (fun b2 b3 b4 z0 z1 μ => ∀ (H1 : Heap) (locs : List Loc) (ls : Array Slot), va_P D vwCl (wW shX 67 cc ad μ ++ rs) H1 → va_D A (wW shX 67 cc ad μ ++ rs) → va_S A s.heap H1 locs → lv_has ls 5 [(0, .ref (ad 49)), (1, .ref (ad O1)), (2, .int b2), (3, .int b3), (4, .int b4)] → W p l e (headSpec wsX1_countKinds ({ frames := 13, cells := 0, slots := 0, locals := 334 })).room s m ([.ref (ad 49), .ref (ad O1), .int x2, .int x3] : List Value).toArray below meth c H1 locs 0 0 (MQ below (va_Qi K (PW shX 67 D cc A ad rs) A) ([.ref (ad 49), .ref (ad O1), .int x2, .int x3] : List Value).toArray s 0 0 A) (F0 m 31 ls ([.int z0, .int z1, .ref (ad 65)]))) ?b3 ?b31)
  case main =>
      refine lv_iconst (v := 0) hx hb dX1_countKinds_0 (by decide) ?_
      refine lv_istore (lv' := [(4, .int 0), (0, .ref (ad 49)), (1, .ref (ad O1)), (2, .int x2), (3, .int x3)]) hx hb dX1_countKinds_1 hl (by decide) rfl (fun ls hl => ?_)
      exact h _ _ _ hP hD hS (lv_sub hl [1, 2, 3, 4, 0] rfl)
  case b3 =>
    intro b2 b3 b4 μ h H locs ls hP hD hS hl
    refine lv_iload hx hb dX1_countKinds_3 (lv_at hl 4 rfl) ?_
    refine lv_bipush (v := 6) hx hb dX1_countKinds_5 (by decide) ?_
    refine lv_icmp_ge (tgt := 38) hx hb dX1_countKinds_7 (by decide) (fun c1 => ?_) (fun c1 => ?_)
    · have h := h.1 c1
      refine lv_aload_n hx hb dX1_countKinds_38 rfl (lv_at hl 0 rfl) ?_
      refine lv_iload_n hx hb dX1_countKinds_39 rfl (lv_at hl 3 rfl) ?_
      refine lv_sipush (v := 720) hx hb dX1_countKinds_40 (by decide) ?_
      refine va_mmin hx hb (hml.trans hl.1.symm) hown hw0 hw1 hw2 hw3 (Nat.le_of_ble_eq_true rfl) (Nat.le_of_ble_eq_true rfl) (Nat.zero_le _) (Nat.zero_le _) dX1_countKinds_43 ?_
      refine zw_put (C := RX1) (T := TX1) (M := 7) hx hb hts hi_X1 tyX1 tyX1_ok nmX1 hown hK hP hD hS kX_49 rfl 3 (by decide) hw4 rfl rfl (Nat.le_of_ble_eq_true rfl) rfl dX1_countKinds_46 (fun μ2 H locs eμ2 hP hD hS => ?_)
      have h := h μ2 eμ2
      refine lv_aload_n hx hb dX1_countKinds_49 rfl (lv_at hl 0 rfl) ?_
      refine lv_iconst (v := 0) hx hb dX1_countKinds_50 (by decide) ?_
      refine zw_put (C := RX1) (T := TX1) (M := 7) hx hb hts hi_X1 tyX1 tyX1_ok nmX1 hown hK hP hD hS kX_49 rfl 2 (by decide) hw5 rfl rfl (Nat.le_of_ble_eq_true rfl) rfl dX1_countKinds_51 (fun μ3 H locs eμ3 hP hD hS => ?_)
      have h := h μ3 eμ3
      refine lv_aload_n hx hb dX1_countKinds_54 rfl (lv_at hl 0 rfl) ?_
      refine lv_aload_n hx hb dX1_countKinds_55 rfl (lv_at hl 1 rfl) ?_
      refine zc_v (zc_runV (As := [.ref (ad O1)]) (rest := []) ⟨hx, hb, hml, hown, hts⟩ (c_X1_findRivals l D cc A ad rs O1 hO1 μ3 _ h) (cwV 1 hts gX1_countKinds_X1_findRivals rfl rfl rfl (by decide +kernel) ⟨Nat.le_of_ble_eq_true rfl, Nat.le_of_ble_eq_true rfl⟩) kX_49 rfl hK hN hP hD rfl hl.1 rfl (Nat.le_of_ble_eq_true rfl) dX1_countKinds_56 ⟨Nat.zero_le _, Nat.zero_le _⟩) hS (fun μ5 H locs h hP hD hS => ?_)
      refine lv_aload_n hx hb dX1_countKinds_59 rfl (lv_at hl 1 rfl) ?_
      refine zw_get (C := RX2) (T := TX2) (M := 7) (v := .ref (ad (O1+1))) hx hb hts hi_X2 hown hK hP (oS hO1) rfl 4 (by decide) hw6 rfl dX1_countKinds_60 ?_
      refine lv_aload_n hx hb dX1_countKinds_63 rfl (lv_at hl 0 rfl) ?_
      refine zw_get (C := RX1) (T := TX1) (M := 7) (v := .ref (ad 57)) hx hb hts hi_X1 hown hK hP kX_49 rfl 4 (by decide) hw7 rfl dX1_countKinds_64 ?_
      refine lv_iconst (v := 0) hx hb dX1_countKinds_67 (by decide) ?_
      obtain ⟨hi6, h⟩ := h
      refine zw_aalI hx hb hK hP kX_57 hi6 dX1_countKinds_68 ?_
      refine W.eq (g2 := F0 m 69 ls ([.ref (ad (58 + (0 : Int32).toNatClampNeg)), .ref (ad (O1+1))])) rfl ?_
      refine zc_v (zc_runSN (As := [.ref (ad (O1+1)), .ref (ad (58 + (0 : Int32).toNatClampNeg))]) (rest := []) ⟨hx, hb, hml, hown, hts⟩ (c_X5_copyRow l D cc A ad rs (O1+1) (iS1 hO1) (58 + (0 : Int32).toNatClampNeg) (iSt (zw_lt hi6)) μ5 _ h) ⟨va_cnB (host := "FeatureClashes") 2 hts gX1_countKinds_X5_copyRow_n57 rfl rfl rfl (hN 11 _ rfl) hw8 (by decide +kernel) ⟨Nat.le_of_ble_eq_true rfl, Nat.le_of_ble_eq_true rfl⟩, hw9, trivial⟩ hK hN hP hD rfl hl.1 rfl (Nat.le_of_ble_eq_true rfl) dX1_countKinds_69 ⟨Nat.zero_le _, Nat.zero_le _⟩) hS (fun μ8 H locs h hP hD hS => ?_)
      refine lv_aload_n hx hb dX1_countKinds_72 rfl (lv_at hl 0 rfl) ?_
      refine lv_aload_n hx hb dX1_countKinds_73 rfl (lv_at hl 1 rfl) ?_
      refine lv_iconst (v := 0) hx hb dX1_countKinds_74 (by decide) ?_
      refine lv_aload_n hx hb dX1_countKinds_75 rfl (lv_at hl 1 rfl) ?_
      refine zw_get (C := RX2) (T := TX2) (M := 7) (v := .int (μ8.1 O1 3)) hx hb hts hi_X2 hown hK hP (oS hO1) rfl 3 (by decide) hw10 rfl dX1_countKinds_76 ?_
      refine lv_iconst (v := (-1)) hx hb dX1_countKinds_79 (by decide) ?_
      refine zc_v (zc_runV (As := [.ref (ad O1), .int 0, .int (μ8.1 O1 3), .int (-1)]) (rest := []) ⟨hx, hb, hml, hown, hts⟩ (c_X1_walkOrders l D cc A ad rs 8 O1 hO1 0 (μ8.1 O1 3) (-1) μ8 _ h) (cwV 4 hts gX1_countKinds_X1_walkOrders rfl rfl rfl (by decide +kernel) ⟨Nat.le_of_ble_eq_true rfl, Nat.le_of_ble_eq_true rfl⟩) kX_49 rfl hK hN hP hD rfl hl.1 rfl (Nat.le_of_ble_eq_true rfl) dX1_countKinds_80 ⟨Nat.zero_le _, Nat.zero_le _⟩) hS (fun μ10 H locs h hP hD hS => ?_)
      refine lv_aload_n hx hb dX1_countKinds_83 rfl (lv_at hl 0 rfl) ?_
      refine zw_get (C := RX1) (T := TX1) (M := 7) (v := .int (μ10.1 49 2)) hx hb hts hi_X1 hown hK hP kX_49 rfl 2 (by decide) hw5 rfl dX1_countKinds_84 ?_
      exact W.iret (v := μ10.1 49 2) hx hb hr (fun t ht hW => ⟨⟨μ10.1 49 2, μ10, rfl, h, PW.to hK hN hP hD t ht hW⟩, hS.F ht⟩) hS.2.2 dX1_countKinds_87
    · have h := h.2 c1
      refine lv_aload_n hx hb dX1_countKinds_10 rfl (lv_at hl 0 rfl) ?_
      refine zw_get (C := RX1) (T := TX1) (M := 7) (v := .ref (ad 65)) hx hb hts hi_X1 hown hK hP kX_49 rfl 5 (by decide) hw11 rfl dX1_countKinds_11 ?_
      refine lv_iload hx hb dX1_countKinds_14 (lv_at hl 4 rfl) ?_
      refine lv_iload_n hx hb dX1_countKinds_16 rfl (lv_at hl 2 rfl) ?_
      refine lv_if_eq (tgt := 30) hx hb dX1_countKinds_17 (by decide) (fun c11 => ?_) (fun c11 => ?_)
      · have h := h.1 c11
        refine lv_iconst (v := 0) hx hb dX1_countKinds_30 (by decide) ?_
        exact h _ _ _ hP hD hS (lv_sub hl [0, 1, 2, 3, 4] rfl)
      · have h := h.2 c11
        refine lv_aload_n hx hb dX1_countKinds_20 rfl (lv_at hl 1 rfl) ?_
        refine zw_get (C := RX2) (T := TX2) (M := 7) (v := .ref (ad (O1+9))) hx hb hts hi_X2 hown hK hP (oS hO1) rfl 6 (by decide) hw12 rfl dX1_countKinds_21 ?_
        refine lv_iload hx hb dX1_countKinds_24 (lv_at hl 4 rfl) ?_
        obtain ⟨hi12, h⟩ := h
        refine zw_iald hx hb hK hP (iS9 hO1) hi12 dX1_countKinds_26 ?_
        refine lv_goto (tgt := 31) hx hb dX1_countKinds_27 (by decide) ?_
        exact h _ _ _ hP hD hS (lv_sub hl [0, 1, 2, 3, 4] rfl)
  case b31 =>
    intro b2 b3 b4 z0 z1 μ h H locs ls hP hD hS hl
    obtain ⟨hi13, h⟩ := h
    refine zw_iast hx hb hK hP hD hS kX_65 hi13 dX1_countKinds_31 (fun μ14 H locs eμ14 hP hD hS => ?_)
    have h := h μ14 eμ14
    obtain ⟨y15, ey15⟩ : ∃ y : Int32, y = b4 + 1 := ⟨_, rfl⟩
    have h := h y15 ey15
    refine lv_iinc (v := y15) (lv' := [(4, .int y15), (0, .ref (ad 49)), (1, .ref (ad O1)), (2, .int b2), (3, .int b3)]) hx hb dX1_countKinds_32 hl (k := 4) rfl (by rw [ey15]; rfl) (by decide) rfl (fun ls hl => ?_)
    refine lv_goto (tgt := 3) hx hb dX1_countKinds_35 (by decide) ?_
    exact h _ _ _ hP hD hS (lv_sub hl [1, 2, 3, 4, 0] rfl)
set_option maxHeartbeats 4000000 in
set_option maxRecDepth 100000 in
theorem c_X2_startAnew (l : Launch) (D : va_G) (cc : Nat → ClassId) (A : Nat → Prop) (ad : Nat → Nat) (rs : va_W) (B : Nat) (hB : isSetup B) (x1 : Int32) (x2 : Int32) (μ : Mem) (K : Mem → Prop) (h : f_X2_startAnew B x1 x2 μ K) : Met l yX2_startAnew wsX2_startAnew ({ frames := 1, cells := 0, slots := 0, locals := 23 }) (va_Pc [.ref (ad B), .int x1, .int x2] (PW shX 67 D cc A ad rs μ)) (va_Qv K (PW shX 67 D cc A ad rs) A) 0 0 A := by
  refine Met.ofW (cc := cX2_startAnew) (maxL := 3) (ret := none) (by decide) rfl ?_
  intro p e s m args below meth c s₁ BB hml hv
  obtain ⟨rfl, hP, hK, hD, hN⟩ := hv
  have hx := BB.exec
  have hb := BB.bytes
  have hr := BB.returns
  have hts := atoms_spec (ws := wsX2_startAnew) BB.pre
  have hown : s.vm.findClass RX2 = some m.cls := findClass_of_methodNamed BB.named
  have hlocks := BB.notSynchronized
  have hi_X2 : ∀ w ∈ u_ws RX2 TX2 7, w ∈ wsX2_startAnew := by decide +kernel
  have hw0 := hts (.fieldLink RX2 9 "FeatureClashes$Setup" "states" "I") (by decide +kernel)
  have hw1 := hts (.fieldLink RX2 15 "FeatureClashes$Setup" "letters" "I") (by decide +kernel)
  have hw2 := hts (.fieldLink RX2 18 "FeatureClashes$Setup" "featureCount" "I") (by decide +kernel)
  have hw3 := hts (.fieldLink RX2 21 "FeatureClashes$Setup" "onSet" "I") (by decide +kernel)
  have hw4 := hts (.fieldLink RX2 24 "FeatureClashes$Setup" "base" "[I") (by decide +kernel)
  have hw5 := hts (.fieldLink RX2 33 "FeatureClashes$Setup" "earlier" "[I") (by decide +kernel)
  have hS : va_S A s.heap s.heap [] := va_S.rf
  have hl := lv_entry ([.ref (ad B), .int x1, .int x2]) (n := 3) (Nat.le_of_ble_eq_true rfl)
  rw [lg_entry_eq]
  generalize (lg_sl ([.ref (ad B), .int x1, .int x2]) ++ List.replicate (3 - (lg_sl ([.ref (ad B), .int x1, .int x2])).length) Slot.unset).toArray = ls at hl ⊢
  have hl : lv_has ls 3 [(0, .ref (ad B)), (1, .int x1), (2, .int x2)] := hl
  unfold f_X2_startAnew at h
  refine lv_aload_n hx hb dX2_startAnew_0 rfl (lv_at hl 0 rfl) ?_
  refine lv_iload_n hx hb dX2_startAnew_1 rfl (lv_at hl 1 rfl) ?_
  refine zw_put (C := RX2) (T := TX2) (M := 7) hx hb hts hi_X2 tyX2 tyX2_ok nmX2 hown hK hP hD hS (oS hB) rfl 0 (by decide) hw0 rfl rfl (Nat.le_of_ble_eq_true rfl) rfl dX2_startAnew_2 (fun μ1 H locs eμ1 hP hD hS => ?_)
  have h := h μ1 eμ1
  refine lv_aload_n hx hb dX2_startAnew_5 rfl (lv_at hl 0 rfl) ?_
  refine lv_iload_n hx hb dX2_startAnew_6 rfl (lv_at hl 2 rfl) ?_
  refine zw_put (C := RX2) (T := TX2) (M := 7) hx hb hts hi_X2 tyX2 tyX2_ok nmX2 hown hK hP hD hS (oS hB) rfl 1 (by decide) hw1 rfl rfl (Nat.le_of_ble_eq_true rfl) rfl dX2_startAnew_7 (fun μ2 H locs eμ2 hP hD hS => ?_)
  have h := h μ2 eμ2
  refine lv_aload_n hx hb dX2_startAnew_10 rfl (lv_at hl 0 rfl) ?_
  refine lv_iconst (v := 0) hx hb dX2_startAnew_11 (by decide) ?_
  refine zw_put (C := RX2) (T := TX2) (M := 7) hx hb hts hi_X2 tyX2 tyX2_ok nmX2 hown hK hP hD hS (oS hB) rfl 2 (by decide) hw2 rfl rfl (Nat.le_of_ble_eq_true rfl) rfl dX2_startAnew_12 (fun μ3 H locs eμ3 hP hD hS => ?_)
  have h := h μ3 eμ3
  refine lv_aload_n hx hb dX2_startAnew_15 rfl (lv_at hl 0 rfl) ?_
  refine lv_iconst (v := 0) hx hb dX2_startAnew_16 (by decide) ?_
  refine zw_put (C := RX2) (T := TX2) (M := 7) hx hb hts hi_X2 tyX2 tyX2_ok nmX2 hown hK hP hD hS (oS hB) rfl 3 (by decide) hw3 rfl rfl (Nat.le_of_ble_eq_true rfl) rfl dX2_startAnew_17 (fun μ4 H locs eμ4 hP hD hS => ?_)
  have h := h μ4 eμ4
  refine lv_aload_n hx hb dX2_startAnew_20 rfl (lv_at hl 0 rfl) ?_
  refine zw_get (C := RX2) (T := TX2) (M := 7) (v := .ref (ad (B+1))) hx hb hts hi_X2 hown hK hP (oS hB) rfl 4 (by decide) hw4 rfl dX2_startAnew_21 ?_
  refine lv_iconst (v := (-1)) hx hb dX2_startAnew_24 (by decide) ?_
  refine zc_v (zc_runS (As := [.ref (ad (B+1)), .int (-1)]) (rest := []) ⟨hx, hb, hml, hown, hts⟩ (c_J7_fill_53178 l D cc A ad rs (B+1) 32 (iS1 hB) (-1) μ4 _ h) (va_cwS 2 hts gX2_startAnew_J7_fill_53178 rfl rfl rfl (by decide +kernel) ⟨Nat.le_of_ble_eq_true rfl, Nat.le_of_ble_eq_true rfl⟩) hK hN hP hD rfl hl.1 rfl (Nat.le_of_ble_eq_true rfl) dX2_startAnew_25 ⟨Nat.zero_le _, Nat.zero_le _⟩) hS (fun μ6 H locs h hP hD hS => ?_)
  refine lv_aload_n hx hb dX2_startAnew_28 rfl (lv_at hl 0 rfl) ?_
  refine zw_get (C := RX2) (T := TX2) (M := 7) (v := .ref (ad (B+9))) hx hb hts hi_X2 hown hK hP (oS hB) rfl 6 (by decide) hw5 rfl dX2_startAnew_29 ?_
  refine lv_iconst (v := 0) hx hb dX2_startAnew_32 (by decide) ?_
  refine zc_v (zc_runS (As := [.ref (ad (B+9)), .int 0]) (rest := []) ⟨hx, hb, hml, hown, hts⟩ (c_J7_fill_53178 l D cc A ad rs (B+9) 6 (iS9 hB) 0 μ6 _ h) (va_cwS 2 hts gX2_startAnew_J7_fill_53178 rfl rfl rfl (by decide +kernel) ⟨Nat.le_of_ble_eq_true rfl, Nat.le_of_ble_eq_true rfl⟩) hK hN hP hD rfl hl.1 rfl (Nat.le_of_ble_eq_true rfl) dX2_startAnew_33 ⟨Nat.zero_le _, Nat.zero_le _⟩) hS (fun μ8 H locs h hP hD hS => ?_)
  exact W.vret hx hb hr (fun t ht hW => ⟨⟨μ8, rfl, h, PW.to hK hN hP hD t ht hW⟩, hS.F ht⟩) hS.2.2 dX2_startAnew_36
set_option maxHeartbeats 4000000 in
set_option maxRecDepth 100000 in
theorem c_X2_copyFrom (l : Launch) (D : va_G) (cc : Nat → ClassId) (A : Nat → Prop) (ad : Nat → Nat) (rs : va_W) (B : Nat) (hB : isSetup B) (O1 : Nat) (hO1 : isSetup O1) (μ : Mem) (K : Mem → Prop) (h : f_X2_copyFrom B O1 μ K) : Met l yX2_copyFrom wsX2_copyFrom ({ frames := 2, cells := 0, slots := 0, locals := 81 }) (va_Pc [.ref (ad B), .ref (ad O1)] (PW shX 67 D cc A ad rs μ)) (va_Qv K (PW shX 67 D cc A ad rs) A) 0 0 A := by
  refine Met.ofW (cc := cX2_copyFrom) (maxL := 3) (ret := none) (by decide) rfl ?_
  intro p e s m args below meth c s₁ BB hml hv
  obtain ⟨rfl, hP, hK, hD, hN⟩ := hv
  have hx := BB.exec
  have hb := BB.bytes
  have hr := BB.returns
  have hts := atoms_spec (ws := wsX2_copyFrom) BB.pre
  have hown : s.vm.findClass RX2 = some m.cls := findClass_of_methodNamed BB.named
  have hlocks := BB.notSynchronized
  have hi_X2 : ∀ w ∈ u_ws RX2 TX2 7, w ∈ wsX2_copyFrom := by decide +kernel
  have hw0 := hts (.fieldLink RX2 9 "FeatureClashes$Setup" "states" "I") (by decide +kernel)
  have hw1 := hts (.fieldLink RX2 15 "FeatureClashes$Setup" "letters" "I") (by decide +kernel)
  have hw2 := hts (.fieldLink RX2 18 "FeatureClashes$Setup" "featureCount" "I") (by decide +kernel)
  have hw3 := hts (.fieldLink RX2 21 "FeatureClashes$Setup" "onSet" "I") (by decide +kernel)
  have hw4 := hts (.fieldLink RX2 24 "FeatureClashes$Setup" "base" "[I") (by decide +kernel)
  have hw5 := hts (.initialized RX5) (by decide +kernel)
  have hw6 := hts (.static yX5_copyRow) (by decide +kernel)
  have hw7 := hts (.fieldLink RX2 30 "FeatureClashes$Setup" "edits" "[[I") (by decide +kernel)
  have hw8 := hts (.fieldLink RX2 33 "FeatureClashes$Setup" "earlier" "[I") (by decide +kernel)
  have hS : va_S A s.heap s.heap [] := va_S.rf
  have hl := lv_entry ([.ref (ad B), .ref (ad O1)]) (n := 3) (Nat.le_of_ble_eq_true rfl)
  rw [lg_entry_eq]
  generalize (lg_sl ([.ref (ad B), .ref (ad O1)]) ++ List.replicate (3 - (lg_sl ([.ref (ad B), .ref (ad O1)])).length) Slot.unset).toArray = ls at hl ⊢
  have hl : lv_has ls 3 [(0, .ref (ad B)), (1, .ref (ad O1))] := hl
  unfold f_X2_copyFrom at h
  refine (fun h => ?main) (h (fun b2 μ => ∀ (H1 : Heap) (locs : List Loc) (ls : Array Slot), va_P D vwCl (wW shX 67 cc ad μ ++ rs) H1 → va_D A (wW shX 67 cc ad μ ++ rs) → va_S A s.heap H1 locs → lv_has ls 3 [(0, .ref (ad B)), (1, .ref (ad O1)), (2, .int b2)] → W p l e (headSpec wsX2_copyFrom ({ frames := 2, cells := 0, slots := 0, locals := 81 })).room s m ([.ref (ad B), .ref (ad O1)] : List Value).toArray below meth c H1 locs 0 0 (MQ below (va_Qv K (PW shX 67 D cc A ad rs) A) ([.ref (ad B), .ref (ad O1)] : List Value).toArray s 0 0 A) (F0 m 45 ls ([]))) ?b45)
  case main =>
      refine lv_aload_n hx hb dX2_copyFrom_0 rfl (lv_at hl 0 rfl) ?_
      refine lv_aload_n hx hb dX2_copyFrom_1 rfl (lv_at hl 1 rfl) ?_
      refine zw_get (C := RX2) (T := TX2) (M := 7) (v := .int (μ.1 O1 0)) hx hb hts hi_X2 hown hK hP (oS hO1) rfl 0 (by decide) hw0 rfl dX2_copyFrom_2 ?_
      refine zw_put (C := RX2) (T := TX2) (M := 7) hx hb hts hi_X2 tyX2 tyX2_ok nmX2 hown hK hP hD hS (oS hB) rfl 0 (by decide) hw0 rfl rfl (Nat.le_of_ble_eq_true rfl) rfl dX2_copyFrom_5 (fun μ1 H locs eμ1 hP hD hS => ?_)
      have h := h μ1 eμ1
      refine lv_aload_n hx hb dX2_copyFrom_8 rfl (lv_at hl 0 rfl) ?_
      refine lv_aload_n hx hb dX2_copyFrom_9 rfl (lv_at hl 1 rfl) ?_
      refine zw_get (C := RX2) (T := TX2) (M := 7) (v := .int (μ1.1 O1 1)) hx hb hts hi_X2 hown hK hP (oS hO1) rfl 1 (by decide) hw1 rfl dX2_copyFrom_10 ?_
      refine zw_put (C := RX2) (T := TX2) (M := 7) hx hb hts hi_X2 tyX2 tyX2_ok nmX2 hown hK hP hD hS (oS hB) rfl 1 (by decide) hw1 rfl rfl (Nat.le_of_ble_eq_true rfl) rfl dX2_copyFrom_13 (fun μ2 H locs eμ2 hP hD hS => ?_)
      have h := h μ2 eμ2
      refine lv_aload_n hx hb dX2_copyFrom_16 rfl (lv_at hl 0 rfl) ?_
      refine lv_aload_n hx hb dX2_copyFrom_17 rfl (lv_at hl 1 rfl) ?_
      refine zw_get (C := RX2) (T := TX2) (M := 7) (v := .int (μ2.1 O1 2)) hx hb hts hi_X2 hown hK hP (oS hO1) rfl 2 (by decide) hw2 rfl dX2_copyFrom_18 ?_
      refine zw_put (C := RX2) (T := TX2) (M := 7) hx hb hts hi_X2 tyX2 tyX2_ok nmX2 hown hK hP hD hS (oS hB) rfl 2 (by decide) hw2 rfl rfl (Nat.le_of_ble_eq_true rfl) rfl dX2_copyFrom_21 (fun μ3 H locs eμ3 hP hD hS => ?_)
      have h := h μ3 eμ3
      refine lv_aload_n hx hb dX2_copyFrom_24 rfl (lv_at hl 0 rfl) ?_
      refine lv_aload_n hx hb dX2_copyFrom_25 rfl (lv_at hl 1 rfl) ?_
      refine zw_get (C := RX2) (T := TX2) (M := 7) (v := .int (μ3.1 O1 3)) hx hb hts hi_X2 hown hK hP (oS hO1) rfl 3 (by decide) hw3 rfl dX2_copyFrom_26 ?_
      refine zw_put (C := RX2) (T := TX2) (M := 7) hx hb hts hi_X2 tyX2 tyX2_ok nmX2 hown hK hP hD hS (oS hB) rfl 3 (by decide) hw3 rfl rfl (Nat.le_of_ble_eq_true rfl) rfl dX2_copyFrom_29 (fun μ4 H locs eμ4 hP hD hS => ?_)
      have h := h μ4 eμ4
      refine lv_aload_n hx hb dX2_copyFrom_32 rfl (lv_at hl 1 rfl) ?_
      refine zw_get (C := RX2) (T := TX2) (M := 7) (v := .ref (ad (O1+1))) hx hb hts hi_X2 hown hK hP (oS hO1) rfl 4 (by decide) hw4 rfl dX2_copyFrom_33 ?_
      refine lv_aload_n hx hb dX2_copyFrom_36 rfl (lv_at hl 0 rfl) ?_
      refine zw_get (C := RX2) (T := TX2) (M := 7) (v := .ref (ad (B+1))) hx hb hts hi_X2 hown hK hP (oS hB) rfl 4 (by decide) hw4 rfl dX2_copyFrom_37 ?_
      refine zc_v (zc_runSN (As := [.ref (ad (O1+1)), .ref (ad (B+1))]) (rest := []) ⟨hx, hb, hml, hown, hts⟩ (c_X5_copyRow l D cc A ad rs (O1+1) (iS1 hO1) (B+1) (iS1 hB) μ4 _ h) ⟨va_cnB (host := "FeatureClashes") 2 hts gX2_copyFrom_X5_copyRow_n42 rfl rfl rfl (hN 8 _ rfl) hw5 (by decide +kernel) ⟨Nat.le_of_ble_eq_true rfl, Nat.le_of_ble_eq_true rfl⟩, hw6, trivial⟩ hK hN hP hD rfl hl.1 rfl (Nat.le_of_ble_eq_true rfl) dX2_copyFrom_40 ⟨Nat.zero_le _, Nat.zero_le _⟩) hS (fun μ6 H locs h hP hD hS => ?_)
      refine lv_iconst (v := 0) hx hb dX2_copyFrom_43 (by decide) ?_
      refine lv_istore_n (lv' := [(2, .int 0), (0, .ref (ad B)), (1, .ref (ad O1))]) hx hb dX2_copyFrom_44 rfl hl (by decide) rfl (fun ls hl => ?_)
      exact h _ _ _ hP hD hS (lv_sub hl [1, 2, 0] rfl)
  case b45 =>
    intro b2 μ h H locs ls hP hD hS hl
    refine lv_iload_n hx hb dX2_copyFrom_45 rfl (lv_at hl 2 rfl) ?_
    refine lv_bipush (v := 6) hx hb dX2_copyFrom_46 (by decide) ?_
    refine lv_icmp_ge (tgt := 84) hx hb dX2_copyFrom_48 (by decide) (fun c7 => ?_) (fun c7 => ?_)
    · have h := h.1 c7
      exact W.vret hx hb hr (fun t ht hW => ⟨⟨μ, rfl, h, PW.to hK hN hP hD t ht hW⟩, hS.F ht⟩) hS.2.2 dX2_copyFrom_84
    · have h := h.2 c7
      refine lv_aload_n hx hb dX2_copyFrom_51 rfl (lv_at hl 1 rfl) ?_
      refine zw_get (C := RX2) (T := TX2) (M := 7) (v := .ref (ad (O1+2))) hx hb hts hi_X2 hown hK hP (oS hO1) rfl 5 (by decide) hw7 rfl dX2_copyFrom_52 ?_
      refine lv_iload_n hx hb dX2_copyFrom_55 rfl (lv_at hl 2 rfl) ?_
      obtain ⟨hi8, h⟩ := h
      refine zw_aalI hx hb hK hP (rS hO1) hi8 dX2_copyFrom_56 ?_
      refine W.eq (g2 := F0 m 57 ls ([.ref (ad ((O1+3) + (b2 : Int32).toNatClampNeg))])) rfl ?_
      refine lv_aload_n hx hb dX2_copyFrom_57 rfl (lv_at hl 0 rfl) ?_
      refine zw_get (C := RX2) (T := TX2) (M := 7) (v := .ref (ad (B+2))) hx hb hts hi_X2 hown hK hP (oS hB) rfl 5 (by decide) hw7 rfl dX2_copyFrom_58 ?_
      refine lv_iload_n hx hb dX2_copyFrom_61 rfl (lv_at hl 2 rfl) ?_
      obtain ⟨hi9, h⟩ := h
      refine zw_aalI hx hb hK hP (rS hB) hi9 dX2_copyFrom_62 ?_
      refine W.eq (g2 := F0 m 63 ls ([.ref (ad ((B+3) + (b2 : Int32).toNatClampNeg)), .ref (ad ((O1+3) + (b2 : Int32).toNatClampNeg))])) rfl ?_
      refine zc_v (zc_runSN (As := [.ref (ad ((O1+3) + (b2 : Int32).toNatClampNeg)), .ref (ad ((B+3) + (b2 : Int32).toNatClampNeg))]) (rest := []) ⟨hx, hb, hml, hown, hts⟩ (c_X5_copyRow l D cc A ad rs ((O1+3) + (b2 : Int32).toNatClampNeg) (iSr hO1 (zw_lt hi8)) ((B+3) + (b2 : Int32).toNatClampNeg) (iSr hB (zw_lt hi9)) μ _ h) ⟨va_cnB (host := "FeatureClashes") 2 hts gX2_copyFrom_X5_copyRow_n42 rfl rfl rfl (hN 8 _ rfl) hw5 (by decide +kernel) ⟨Nat.le_of_ble_eq_true rfl, Nat.le_of_ble_eq_true rfl⟩, hw6, trivial⟩ hK hN hP hD rfl hl.1 rfl (Nat.le_of_ble_eq_true rfl) dX2_copyFrom_63 ⟨Nat.zero_le _, Nat.zero_le _⟩) hS (fun μ11 H locs h hP hD hS => ?_)
      refine lv_aload_n hx hb dX2_copyFrom_66 rfl (lv_at hl 0 rfl) ?_
      refine zw_get (C := RX2) (T := TX2) (M := 7) (v := .ref (ad (B+9))) hx hb hts hi_X2 hown hK hP (oS hB) rfl 6 (by decide) hw8 rfl dX2_copyFrom_67 ?_
      refine lv_iload_n hx hb dX2_copyFrom_70 rfl (lv_at hl 2 rfl) ?_
      refine lv_aload_n hx hb dX2_copyFrom_71 rfl (lv_at hl 1 rfl) ?_
      refine zw_get (C := RX2) (T := TX2) (M := 7) (v := .ref (ad (O1+9))) hx hb hts hi_X2 hown hK hP (oS hO1) rfl 6 (by decide) hw8 rfl dX2_copyFrom_72 ?_
      refine lv_iload_n hx hb dX2_copyFrom_75 rfl (lv_at hl 2 rfl) ?_
      obtain ⟨hi12, h⟩ := h
      refine zw_iald hx hb hK hP (iS9 hO1) hi12 dX2_copyFrom_76 ?_
      obtain ⟨hi13, h⟩ := h
      refine zw_iast hx hb hK hP hD hS (iS9 hB) hi13 dX2_copyFrom_77 (fun μ14 H locs eμ14 hP hD hS => ?_)
      have h := h μ14 eμ14
      obtain ⟨y15, ey15⟩ : ∃ y : Int32, y = b2 + 1 := ⟨_, rfl⟩
      have h := h y15 ey15
      refine lv_iinc (v := y15) (lv' := [(2, .int y15), (0, .ref (ad B)), (1, .ref (ad O1))]) hx hb dX2_copyFrom_78 hl (k := 2) rfl (by rw [ey15]; rfl) (by decide) rfl (fun ls hl => ?_)
      refine lv_goto (tgt := 45) hx hb dX2_copyFrom_81 (by decide) ?_
      exact h _ _ _ hP hD hS (lv_sub hl [1, 2, 0] rfl)
set_option maxHeartbeats 4000000 in
set_option maxRecDepth 100000 in
theorem c_X2_hasState (l : Launch) (D : va_G) (cc : Nat → ClassId) (A : Nat → Prop) (ad : Nat → Nat) (rs : va_W) (B : Nat) (hB : isSetup B) (x1 : Int32) (μ : Mem) (K : Int32 → Mem → Prop) (h : f_X2_hasState B x1 μ K) : Met l yX2_hasState wsX2_hasState ({ frames := 0, cells := 0, slots := 0, locals := 0 }) (va_Pc [.ref (ad B), .int x1] (PW shX 67 D cc A ad rs μ)) (va_Qi K (PW shX 67 D cc A ad rs) A) 0 0 A := by
  refine Met.ofW (cc := cX2_hasState) (maxL := 2) (ret := (some .boolean)) (by decide) rfl ?_
  intro p e s m args below meth c s₁ BB hml hv
  obtain ⟨rfl, hP, hK, hD, hN⟩ := hv
  have hx := BB.exec
  have hb := BB.bytes
  have hr := BB.returns
  have hts := atoms_spec (ws := wsX2_hasState) BB.pre
  have hown : s.vm.findClass RX2 = some m.cls := findClass_of_methodNamed BB.named
  have hlocks := BB.notSynchronized
  have hi_X2 : ∀ w ∈ u_ws RX2 TX2 7, w ∈ wsX2_hasState := by decide +kernel
  have hw0 := hts (.fieldLink RX2 9 "FeatureClashes$Setup" "states" "I") (by decide +kernel)
  have hS : va_S A s.heap s.heap [] := va_S.rf
  have hl := lv_entry ([.ref (ad B), .int x1]) (n := 2) (Nat.le_of_ble_eq_true rfl)
  rw [lg_entry_eq]
  generalize (lg_sl ([.ref (ad B), .int x1]) ++ List.replicate (2 - (lg_sl ([.ref (ad B), .int x1])).length) Slot.unset).toArray = ls at hl ⊢
  have hl : lv_has ls 2 [(0, .ref (ad B)), (1, .int x1)] := hl
  unfold f_X2_hasState at h
  refine lv_iload_n hx hb dX2_hasState_0 rfl (lv_at hl 1 rfl) ?_
  refine lv_if_lt (tgt := 16) hx hb dX2_hasState_1 (by decide) (fun c1 => ?_) (fun c1 => ?_)
  · have h := h.1 c1
    refine lv_iconst (v := 0) hx hb dX2_hasState_16 (by decide) ?_
    exact W.zret (ty := .boolean) (v := 0) hx hb hr rfl (fun t ht hW => ⟨⟨0, μ, rfl, h, PW.to hK hN hP hD t ht hW⟩, hS.F ht⟩) hS.2.2 dX2_hasState_17
  · have h := h.2 c1
    refine lv_iload_n hx hb dX2_hasState_4 rfl (lv_at hl 1 rfl) ?_
    refine lv_aload_n hx hb dX2_hasState_5 rfl (lv_at hl 0 rfl) ?_
    refine zw_get (C := RX2) (T := TX2) (M := 7) (v := .int (μ.1 B 0)) hx hb hts hi_X2 hown hK hP (oS hB) rfl 0 (by decide) hw0 rfl dX2_hasState_6 ?_
    refine lv_icmp_ge (tgt := 16) hx hb dX2_hasState_9 (by decide) (fun c2 => ?_) (fun c2 => ?_)
    · have h := h.1 c2
      refine lv_iconst (v := 0) hx hb dX2_hasState_16 (by decide) ?_
      exact W.zret (ty := .boolean) (v := 0) hx hb hr rfl (fun t ht hW => ⟨⟨0, μ, rfl, h, PW.to hK hN hP hD t ht hW⟩, hS.F ht⟩) hS.2.2 dX2_hasState_17
    · have h := h.2 c2
      refine lv_iconst (v := 1) hx hb dX2_hasState_12 (by decide) ?_
      refine lv_goto (tgt := 17) hx hb dX2_hasState_13 (by decide) ?_
      exact W.zret (ty := .boolean) (v := 1) hx hb hr rfl (fun t ht hW => ⟨⟨1, μ, rfl, h, PW.to hK hN hP hD t ht hW⟩, hS.F ht⟩) hS.2.2 dX2_hasState_17
