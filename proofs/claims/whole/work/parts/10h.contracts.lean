set_option maxHeartbeats 4000000 in
set_option maxRecDepth 100000 in
theorem c_X6_base (l : Launch) (D : va_G) (cc : Nat → ClassId) (A : Nat → Prop) (ad : Nat → Nat) (rs : va_W) (p1 : Nat) (hp1 : isI shM 18 p1 32) (μ : Mem) (K : Mem → Prop) (h : f_X6_base p1 μ K) : Met l yX6_base wsX6_base ({ frames := 0, cells := 0, slots := 0, locals := 0 }) (va_Pc [.ref (ad 0), .ref (ad p1)] (PW shM 18 D cc A ad rs μ)) (va_Qv K (PW shM 18 D cc A ad rs) A) 0 0 A := by
  refine Met.ofW (cc := cX6_base) (maxL := 3) (ret := none) (by decide) rfl ?_
  intro p e s m args below meth c s₁ BB hml hv
  obtain ⟨rfl, hP, hK, hD, hN⟩ := hv
  have hx := BB.exec
  have hb := BB.bytes
  have hr := BB.returns
  have hts := atoms_spec (ws := wsX6_base) BB.pre
  have hown : s.vm.findClass RX6 = some m.cls := findClass_of_methodNamed BB.named
  have hlocks := BB.notSynchronized
  have hi_X6 : ∀ w ∈ u_ws RX6 TX6 22, w ∈ wsX6_base := by decide +kernel
  have hw0 := hts (.fieldLink RX6 7 "FeatureClashesModel" "v" "[I") (by decide +kernel)
  have hS : va_S A s.heap s.heap [] := va_S.rf
  have hl := lv_entry ([.ref (ad 0), .ref (ad p1)]) (n := 3) (Nat.le_of_ble_eq_true rfl)
  rw [lg_entry_eq]
  generalize (lg_sl ([.ref (ad 0), .ref (ad p1)]) ++ List.replicate (3 - (lg_sl ([.ref (ad 0), .ref (ad p1)])).length) Slot.unset).toArray = ls at hl ⊢
  have hl : lv_has ls 3 [(0, .ref (ad 0)), (1, .ref (ad p1))] := hl
  unfold f_X6_base at h
  refine (fun h => ?main) (h (fun b2 μ => ∀ (H1 : Heap) (locs : List Loc) (ls : Array Slot), va_P D vwCl (wW shM 18 cc ad μ ++ rs) H1 → va_D A (wW shM 18 cc ad μ ++ rs) → va_S A s.heap H1 locs → lv_has ls 3 [(0, .ref (ad 0)), (1, .ref (ad p1)), (2, .int b2)] → W p l e (headSpec wsX6_base ({ frames := 0, cells := 0, slots := 0, locals := 0 })).room s m ([.ref (ad 0), .ref (ad p1)] : List Value).toArray below meth c H1 locs 0 0 (MQ below (va_Qv K (PW shM 18 D cc A ad rs) A) ([.ref (ad 0), .ref (ad p1)] : List Value).toArray s 0 0 A) (F0 m 2 ls ([]))) ?b2)
  case main =>
      refine lv_iconst (v := 0) hx hb dX6_base_0 (by decide) ?_
      refine lv_istore_n (lv' := [(2, .int 0), (0, .ref (ad 0)), (1, .ref (ad p1))]) hx hb dX6_base_1 rfl hl (by decide) rfl (fun ls hl => ?_)
      exact h _ _ _ hP hD hS (lv_sub hl [1, 2, 0] rfl)
  case b2 =>
    intro b2 μ h H locs ls hP hD hS hl
    refine lv_iload_n hx hb dX6_base_2 rfl (lv_at hl 2 rfl) ?_
    refine lv_bipush (v := 32) hx hb dX6_base_3 (by decide) ?_
    refine lv_icmp_ge (tgt := 25) hx hb dX6_base_5 (by decide) (fun c1 => ?_) (fun c1 => ?_)
    · have h := h.1 c1
      exact W.vret hx hb hr (fun t ht hW => ⟨⟨μ, rfl, h, PW.to hK hN hP hD t ht hW⟩, hS.F ht⟩) hS.2.2 dX6_base_25
    · have h := h.2 c1
      refine lv_aload_n hx hb dX6_base_8 rfl (lv_at hl 1 rfl) ?_
      refine lv_iload_n hx hb dX6_base_9 rfl (lv_at hl 2 rfl) ?_
      refine lv_aload_n hx hb dX6_base_10 rfl (lv_at hl 0 rfl) ?_
      refine zw_get (C := RX6) (T := TX6) (M := 22) (v := .ref (ad 1)) hx hb hts hi_X6 hown hK hP kM_0 rfl 0 (by decide) hw0 rfl dX6_base_11 ?_
      refine lv_iconst (v := 2) hx hb dX6_base_14 (by decide) ?_
      refine lv_iload_n hx hb dX6_base_15 rfl (lv_at hl 2 rfl) ?_
      refine lv_iadd hx hb dX6_base_16 ?_
      obtain ⟨hi2, h⟩ := h
      refine zw_iald hx hb hK hP kM_1 hi2 dX6_base_17 ?_
      obtain ⟨hi3, h⟩ := h
      refine zw_iast hx hb hK hP hD hS hp1 hi3 dX6_base_18 (fun μ4 H locs eμ4 hP hD hS => ?_)
      have h := h μ4 eμ4
      obtain ⟨y5, ey5⟩ : ∃ y : Int32, y = b2 + 1 := ⟨_, rfl⟩
      have h := h y5 ey5
      refine lv_iinc (v := y5) (lv' := [(2, .int y5), (0, .ref (ad 0)), (1, .ref (ad p1))]) hx hb dX6_base_19 hl (k := 2) rfl (by rw [ey5]; rfl) (by decide) rfl (fun ls hl => ?_)
      refine lv_goto (tgt := 2) hx hb dX6_base_22 (by decide) ?_
      exact h _ _ _ hP hD hS (lv_sub hl [1, 2, 0] rfl)
set_option maxHeartbeats 4000000 in
set_option maxRecDepth 100000 in
theorem c_X6_putsOn (l : Launch) (D : va_G) (cc : Nat → ClassId) (A : Nat → Prop) (ad : Nat → Nat) (rs : va_W) (p1 : Nat) (hp1 : isI shM 18 p1 32) (x2 : Int32) (μ : Mem) (K : Mem → Prop) (h : f_X6_putsOn p1 x2 μ K) : Met l yX6_putsOn wsX6_putsOn ({ frames := 1, cells := 0, slots := 0, locals := 21 }) (va_Pc [.ref (ad 0), .ref (ad p1), .int x2] (PW shM 18 D cc A ad rs μ)) (va_Qv K (PW shM 18 D cc A ad rs) A) 0 0 A := by
  refine Met.ofW (cc := cX6_putsOn) (maxL := 5) (ret := none) (by decide) rfl ?_
  intro p e s m args below meth c s₁ BB hml hv
  obtain ⟨rfl, hP, hK, hD, hN⟩ := hv
  have hx := BB.exec
  have hb := BB.bytes
  have hr := BB.returns
  have hts := atoms_spec (ws := wsX6_putsOn) BB.pre
  have hown : s.vm.findClass RX6 = some m.cls := findClass_of_methodNamed BB.named
  have hlocks := BB.notSynchronized
  have hi_X6 : ∀ w ∈ u_ws RX6 TX6 22, w ∈ wsX6_putsOn := by decide +kernel
  have hw0 := hts (.fieldLink RX6 7 "FeatureClashesModel" "v" "[I") (by decide +kernel)
  have hS : va_S A s.heap s.heap [] := va_S.rf
  have hl := lv_entry ([.ref (ad 0), .ref (ad p1), .int x2]) (n := 5) (Nat.le_of_ble_eq_true rfl)
  rw [lg_entry_eq]
  generalize (lg_sl ([.ref (ad 0), .ref (ad p1), .int x2]) ++ List.replicate (5 - (lg_sl ([.ref (ad 0), .ref (ad p1), .int x2])).length) Slot.unset).toArray = ls at hl ⊢
  have hl : lv_has ls 5 [(0, .ref (ad 0)), (1, .ref (ad p1)), (2, .int x2)] := hl
  unfold f_X6_putsOn at h
  refine (fun h => ?main) (h (fun b2 b3 μ => ∀ (H1 : Heap) (locs : List Loc) (ls : Array Slot), va_P D vwCl (wW shM 18 cc ad μ ++ rs) H1 → va_D A (wW shM 18 cc ad μ ++ rs) → va_S A s.heap H1 locs → lv_has ls 5 [(0, .ref (ad 0)), (1, .ref (ad p1)), (2, .int b2), (3, .int b3)] → W p l e (headSpec wsX6_putsOn ({ frames := 1, cells := 0, slots := 0, locals := 21 })).room s m ([.ref (ad 0), .ref (ad p1), .int x2] : List Value).toArray below meth c H1 locs 0 0 (MQ below (va_Qv K (PW shM 18 D cc A ad rs) A) ([.ref (ad 0), .ref (ad p1), .int x2] : List Value).toArray s 0 0 A) (F0 m 2 ls ([]))) (fun b2 b3 z0 z1 μ => ∀ (H1 : Heap) (locs : List Loc) (ls : Array Slot), va_P D vwCl (wW shM 18 cc ad μ ++ rs) H1 → va_D A (wW shM 18 cc ad μ ++ rs) → va_S A s.heap H1 locs → lv_has ls 5 [(0, .ref (ad 0)), (1, .ref (ad p1)), (2, .int b2), (3, .int b3)] → W p l e (headSpec wsX6_putsOn ({ frames := 1, cells := 0, slots := 0, locals := 21 })).room s m ([.ref (ad 0), .ref (ad p1), .int x2] : List Value).toArray below meth c H1 locs 0 0 (MQ below (va_Qv K (PW shM 18 D cc A ad rs) A) ([.ref (ad 0), .ref (ad p1), .int x2] : List Value).toArray s 0 0 A) (F0 m 48 ls ([.int z0, .int z1, .ref (ad p1)]))) ?b2 ?b48)
  case main =>
      refine lv_iconst (v := 0) hx hb dX6_putsOn_0 (by decide) ?_
      refine lv_istore_n (lv' := [(3, .int 0), (0, .ref (ad 0)), (1, .ref (ad p1)), (2, .int x2)]) hx hb dX6_putsOn_1 rfl hl (by decide) rfl (fun ls hl => ?_)
      exact h _ _ _ hP hD hS (lv_sub hl [1, 2, 3, 0] rfl)
  case b2 =>
    intro b2 b3 μ h H locs ls hP hD hS hl
    refine lv_iload_n hx hb dX6_putsOn_2 rfl (lv_at hl 3 rfl) ?_
    refine lv_bipush (v := 32) hx hb dX6_putsOn_3 (by decide) ?_
    refine lv_icmp_ge (tgt := 55) hx hb dX6_putsOn_5 (by decide) (fun c1 => ?_) (fun c1 => ?_)
    · have h := h.1 c1
      exact W.vret hx hb hr (fun t ht hW => ⟨⟨μ, rfl, h, PW.to hK hN hP hD t ht hW⟩, hS.F ht⟩) hS.2.2 dX6_putsOn_55
    · have h := h.2 c1
      refine lv_aload_n hx hb dX6_putsOn_8 rfl (lv_at hl 0 rfl) ?_
      refine zw_get (C := RX6) (T := TX6) (M := 22) (v := .ref (ad 1)) hx hb hts hi_X6 hown hK hP kM_0 rfl 0 (by decide) hw0 rfl dX6_putsOn_9 ?_
      refine lv_iload_n hx hb dX6_putsOn_12 rfl (lv_at hl 2 rfl) ?_
      refine lv_iconst (v := 1) hx hb dX6_putsOn_13 (by decide) ?_
      refine lv_iload_n hx hb dX6_putsOn_14 rfl (lv_at hl 3 rfl) ?_
      refine lv_iadd hx hb dX6_putsOn_15 ?_
      refine zc_i (zc_runS (As := [.int b2, .int (1 + b3)]) (rest := [.ref (ad 1)]) ⟨hx, hb, hml, hown, hts⟩ (c_X6_at l D cc A ad rs b2 (1 + b3) μ _ h) (va_cwS 2 hts gX6_putsOn_X6_at rfl rfl rfl (by decide +kernel) ⟨Nat.le_of_ble_eq_true rfl, Nat.le_of_ble_eq_true rfl⟩) hK hN hP hD rfl hl.1 rfl (Nat.le_of_ble_eq_true rfl) dX6_putsOn_16 ⟨Nat.zero_le _, Nat.zero_le _⟩) hS (fun r2 μ3 H locs h hP hD hS => ?_)
      obtain ⟨hi4, h⟩ := h
      refine zw_iald hx hb hK hP kM_1 hi4 dX6_putsOn_19 ?_
      refine lv_topi (fun y5 ey5 => ?_)
      have h := h y5 ey5
      refine lv_istore (lv' := [(4, .int y5), (0, .ref (ad 0)), (1, .ref (ad p1)), (2, .int b2), (3, .int b3)]) hx hb dX6_putsOn_20 hl (by decide) rfl (fun ls hl => ?_)
      refine lv_aload_n hx hb dX6_putsOn_22 rfl (lv_at hl 2 rfl) ?_
      refine lv_iload_n hx hb dX6_putsOn_23 rfl (lv_at hl 4 rfl) ?_
      refine lv_iload hx hb dX6_putsOn_24 (lv_at hl 0 rfl) ?_
      refine lv_if_ge (tgt := 35) hx hb dX6_putsOn_26 (by decide) (fun c6 => ?_) (fun c6 => ?_)
      · have h := h.1 c6
        refine lv_iload hx hb dX6_putsOn_35 (lv_at hl 0 rfl) ?_
        refine lv_bipush (v := 100) hx hb dX6_putsOn_37 (by decide) ?_
        refine lv_icmp_ne (tgt := 46) hx hb dX6_putsOn_39 (by decide) (fun c7 => ?_) (fun c7 => ?_)
        · have h := h.1 c7
          refine lv_iload hx hb dX6_putsOn_46 (lv_at hl 0 rfl) ?_
          exact h _ _ _ hP hD hS (lv_sub hl [1, 2, 3, 4] rfl)
        · have h := h.2 c7
          refine lv_iconst (v := (-1)) hx hb dX6_putsOn_42 (by decide) ?_
          refine lv_goto (tgt := 48) hx hb dX6_putsOn_43 (by decide) ?_
          exact h _ _ _ hP hD hS (lv_sub hl [1, 2, 3, 4] rfl)
      · have h := h.2 c6
        refine lv_aload_n hx hb dX6_putsOn_29 rfl (lv_at hl 2 rfl) ?_
        refine lv_iload_n hx hb dX6_putsOn_30 rfl (lv_at hl 4 rfl) ?_
        obtain ⟨hi8, h⟩ := h
        refine zw_iald hx hb hK hP hp1 hi8 dX6_putsOn_31 ?_
        refine lv_goto (tgt := 48) hx hb dX6_putsOn_32 (by decide) ?_
        exact h _ _ _ hP hD hS (lv_sub hl [1, 2, 3, 4] rfl)
  case b48 =>
    intro b2 b3 z0 z1 μ h H locs ls hP hD hS hl
    obtain ⟨hi9, h⟩ := h
    refine zw_iast hx hb hK hP hD hS hp1 hi9 dX6_putsOn_48 (fun μ10 H locs eμ10 hP hD hS => ?_)
    have h := h μ10 eμ10
    obtain ⟨y11, ey11⟩ : ∃ y : Int32, y = b3 + 1 := ⟨_, rfl⟩
    have h := h y11 ey11
    refine lv_iinc (v := y11) (lv' := [(3, .int y11), (0, .ref (ad 0)), (1, .ref (ad p1)), (2, .int b2)]) hx hb dX6_putsOn_49 hl (k := 3) rfl (by rw [ey11]; rfl) (by decide) rfl (fun ls hl => ?_)
    refine lv_goto (tgt := 2) hx hb dX6_putsOn_52 (by decide) ?_
    exact h _ _ _ hP hD hS (lv_sub hl [1, 2, 3, 0] rfl)
set_option maxHeartbeats 4000000 in
set_option maxRecDepth 100000 in
theorem c_X6_output (l : Launch) (D : va_G) (cc : Nat → ClassId) (A : Nat → Prop) (ad : Nat → Nat) (rs : va_W) (p0 : Nat) (hp0 : isI shM 18 p0 32) (x1 : Int32) (x2 : Int32) (μ : Mem) (K : Int32 → Mem → Prop) (h : f_X6_output p0 x1 x2 μ K) : Met l yX6_output wsX6_output ({ frames := 0, cells := 0, slots := 0, locals := 0 }) (va_Pc [.ref (ad p0), .int x1, .int x2] (PW shM 18 D cc A ad rs μ)) (va_Qi K (PW shM 18 D cc A ad rs) A) 0 0 A := by
  refine Met.ofW (cc := cX6_output) (maxL := 3) (ret := (some .int)) (by decide) rfl ?_
  intro p e s m args below meth c s₁ BB hml hv
  obtain ⟨rfl, hP, hK, hD, hN⟩ := hv
  have hx := BB.exec
  have hb := BB.bytes
  have hr := BB.returns
  have hts := atoms_spec (ws := wsX6_output) BB.pre
  have hown : s.vm.findClass RX6 = some m.cls := findClass_of_methodNamed BB.named
  have hlocks := BB.notSynchronized
  have hS : va_S A s.heap s.heap [] := va_S.rf
  have hl := lv_entry ([.ref (ad p0), .int x1, .int x2]) (n := 3) (Nat.le_of_ble_eq_true rfl)
  rw [lg_entry_eq]
  generalize (lg_sl ([.ref (ad p0), .int x1, .int x2]) ++ List.replicate (3 - (lg_sl ([.ref (ad p0), .int x1, .int x2])).length) Slot.unset).toArray = ls at hl ⊢
  have hl : lv_has ls 3 [(0, .ref (ad p0)), (1, .int x1), (2, .int x2)] := hl
  unfold f_X6_output at h
  refine (fun h => ?main) (h (fun μ => ∀ (H1 : Heap) (locs : List Loc) (ls : Array Slot), va_P D vwCl (wW shM 18 cc ad μ ++ rs) H1 → va_D A (wW shM 18 cc ad μ ++ rs) → va_S A s.heap H1 locs → lv_has ls 3 [] → W p l e (headSpec wsX6_output ({ frames := 0, cells := 0, slots := 0, locals := 0 })).room s m ([.ref (ad p0), .int x1, .int x2] : List Value).toArray below meth c H1 locs 0 0 (MQ below (va_Qi K (PW shM 18 D cc A ad rs) A) ([.ref (ad p0), .int x1, .int x2] : List Value).toArray s 0 0 A) (F0 m 16 ls ([]))) ?b16)
  case main =>
      refine lv_iload_n hx hb dX6_output_0 rfl (lv_at hl 1 rfl) ?_
      refine lv_bipush (v := 8) hx hb dX6_output_1 (by decide) ?_
      refine lv_icmp_eq (tgt := 16) hx hb dX6_output_3 (by decide) (fun c1 => ?_) (fun c1 => ?_)
      · have h := h.1 c1
        exact h _ _ _ hP hD hS (lv_sub hl [] rfl)
      · have h := h.2 c1
        refine lv_aload_n hx hb dX6_output_6 rfl (lv_at hl 0 rfl) ?_
        refine lv_iconst (v := 4) hx hb dX6_output_7 (by decide) ?_
        refine lv_iload_n hx hb dX6_output_8 rfl (lv_at hl 1 rfl) ?_
        refine lv_imul hx hb dX6_output_9 ?_
        refine lv_iload_n hx hb dX6_output_10 rfl (lv_at hl 2 rfl) ?_
        refine lv_iadd hx hb dX6_output_11 ?_
        obtain ⟨hi2, h⟩ := h
        refine zw_iald hx hb hK hP hp0 hi2 dX6_output_12 ?_
        refine lv_if_ge (tgt := 21) hx hb dX6_output_13 (by decide) (fun c3 => ?_) (fun c3 => ?_)
        · have h := h.1 c3
          refine lv_aload_n hx hb dX6_output_21 rfl (lv_at hl 0 rfl) ?_
          refine lv_iconst (v := 4) hx hb dX6_output_22 (by decide) ?_
          refine lv_iload_n hx hb dX6_output_23 rfl (lv_at hl 1 rfl) ?_
          refine lv_imul hx hb dX6_output_24 ?_
          refine lv_iload_n hx hb dX6_output_25 rfl (lv_at hl 2 rfl) ?_
          refine lv_iadd hx hb dX6_output_26 ?_
          obtain ⟨hi4, h⟩ := h
          refine zw_iald hx hb hK hP hp0 hi4 dX6_output_27 ?_
          refine lv_bipush (v := 10) hx hb dX6_output_28 (by decide) ?_
          refine lv_irem hx hb dX6_output_30 (by decide) ?_
          exact W.iret (v := (μ.1 p0 ((4 * x1) + x2 : Int32).toNatClampNeg) - (μ.1 p0 ((4 * x1) + x2 : Int32).toNatClampNeg) / 10 * 10) hx hb hr (fun t ht hW => ⟨⟨(μ.1 p0 ((4 * x1) + x2 : Int32).toNatClampNeg) - (μ.1 p0 ((4 * x1) + x2 : Int32).toNatClampNeg) / 10 * 10, μ, rfl, h, PW.to hK hN hP hD t ht hW⟩, hS.F ht⟩) hS.2.2 dX6_output_31
        · have h := h.2 c3
          exact h _ _ _ hP hD hS (lv_sub hl [] rfl)
  case b16 =>
    intro μ h H locs ls hP hD hS hl
    refine lv_bipush (v := 10) hx hb dX6_output_16 (by decide) ?_
    refine lv_goto (tgt := 31) hx hb dX6_output_18 (by decide) ?_
    exact W.iret (v := 10) hx hb hr (fun t ht hW => ⟨⟨10, μ, rfl, h, PW.to hK hN hP hD t ht hW⟩, hS.F ht⟩) hS.2.2 dX6_output_31
set_option maxHeartbeats 4000000 in
set_option maxRecDepth 100000 in
theorem c_X6_next (l : Launch) (D : va_G) (cc : Nat → ClassId) (A : Nat → Prop) (ad : Nat → Nat) (rs : va_W) (p0 : Nat) (hp0 : isI shM 18 p0 32) (x1 : Int32) (x2 : Int32) (μ : Mem) (K : Int32 → Mem → Prop) (h : f_X6_next p0 x1 x2 μ K) : Met l yX6_next wsX6_next ({ frames := 0, cells := 0, slots := 0, locals := 0 }) (va_Pc [.ref (ad p0), .int x1, .int x2] (PW shM 18 D cc A ad rs μ)) (va_Qi K (PW shM 18 D cc A ad rs) A) 0 0 A := by
  refine Met.ofW (cc := cX6_next) (maxL := 3) (ret := (some .int)) (by decide) rfl ?_
  intro p e s m args below meth c s₁ BB hml hv
  obtain ⟨rfl, hP, hK, hD, hN⟩ := hv
  have hx := BB.exec
  have hb := BB.bytes
  have hr := BB.returns
  have hts := atoms_spec (ws := wsX6_next) BB.pre
  have hown : s.vm.findClass RX6 = some m.cls := findClass_of_methodNamed BB.named
  have hlocks := BB.notSynchronized
  have hS : va_S A s.heap s.heap [] := va_S.rf
  have hl := lv_entry ([.ref (ad p0), .int x1, .int x2]) (n := 3) (Nat.le_of_ble_eq_true rfl)
  rw [lg_entry_eq]
  generalize (lg_sl ([.ref (ad p0), .int x1, .int x2]) ++ List.replicate (3 - (lg_sl ([.ref (ad p0), .int x1, .int x2])).length) Slot.unset).toArray = ls at hl ⊢
  have hl : lv_has ls 3 [(0, .ref (ad p0)), (1, .int x1), (2, .int x2)] := hl
  unfold f_X6_next at h
  refine (fun h => ?main) (h (fun μ => ∀ (H1 : Heap) (locs : List Loc) (ls : Array Slot), va_P D vwCl (wW shM 18 cc ad μ ++ rs) H1 → va_D A (wW shM 18 cc ad μ ++ rs) → va_S A s.heap H1 locs → lv_has ls 3 [] → W p l e (headSpec wsX6_next ({ frames := 0, cells := 0, slots := 0, locals := 0 })).room s m ([.ref (ad p0), .int x1, .int x2] : List Value).toArray below meth c H1 locs 0 0 (MQ below (va_Qi K (PW shM 18 D cc A ad rs) A) ([.ref (ad p0), .int x1, .int x2] : List Value).toArray s 0 0 A) (F0 m 16 ls ([]))) ?b16)
  case main =>
      refine lv_iload_n hx hb dX6_next_0 rfl (lv_at hl 1 rfl) ?_
      refine lv_bipush (v := 8) hx hb dX6_next_1 (by decide) ?_
      refine lv_icmp_eq (tgt := 16) hx hb dX6_next_3 (by decide) (fun c1 => ?_) (fun c1 => ?_)
      · have h := h.1 c1
        exact h _ _ _ hP hD hS (lv_sub hl [] rfl)
      · have h := h.2 c1
        refine lv_aload_n hx hb dX6_next_6 rfl (lv_at hl 0 rfl) ?_
        refine lv_iconst (v := 4) hx hb dX6_next_7 (by decide) ?_
        refine lv_iload_n hx hb dX6_next_8 rfl (lv_at hl 1 rfl) ?_
        refine lv_imul hx hb dX6_next_9 ?_
        refine lv_iload_n hx hb dX6_next_10 rfl (lv_at hl 2 rfl) ?_
        refine lv_iadd hx hb dX6_next_11 ?_
        obtain ⟨hi2, h⟩ := h
        refine zw_iald hx hb hK hP hp0 hi2 dX6_next_12 ?_
        refine lv_if_ge (tgt := 21) hx hb dX6_next_13 (by decide) (fun c3 => ?_) (fun c3 => ?_)
        · have h := h.1 c3
          refine lv_aload_n hx hb dX6_next_21 rfl (lv_at hl 0 rfl) ?_
          refine lv_iconst (v := 4) hx hb dX6_next_22 (by decide) ?_
          refine lv_iload_n hx hb dX6_next_23 rfl (lv_at hl 1 rfl) ?_
          refine lv_imul hx hb dX6_next_24 ?_
          refine lv_iload_n hx hb dX6_next_25 rfl (lv_at hl 2 rfl) ?_
          refine lv_iadd hx hb dX6_next_26 ?_
          obtain ⟨hi4, h⟩ := h
          refine zw_iald hx hb hK hP hp0 hi4 dX6_next_27 ?_
          refine lv_bipush (v := 10) hx hb dX6_next_28 (by decide) ?_
          refine lv_idiv hx hb dX6_next_30 (by decide) ?_
          exact W.iret (v := (μ.1 p0 ((4 * x1) + x2 : Int32).toNatClampNeg) / 10) hx hb hr (fun t ht hW => ⟨⟨(μ.1 p0 ((4 * x1) + x2 : Int32).toNatClampNeg) / 10, μ, rfl, h, PW.to hK hN hP hD t ht hW⟩, hS.F ht⟩) hS.2.2 dX6_next_31
        · have h := h.2 c3
          exact h _ _ _ hP hD hS (lv_sub hl [] rfl)
  case b16 =>
    intro μ h H locs ls hP hD hS hl
    refine lv_bipush (v := 8) hx hb dX6_next_16 (by decide) ?_
    refine lv_goto (tgt := 31) hx hb dX6_next_18 (by decide) ?_
    exact W.iret (v := 8) hx hb hr (fun t ht hW => ⟨⟨8, μ, rfl, h, PW.to hK hN hP hD t ht hW⟩, hS.F ht⟩) hS.2.2 dX6_next_31
set_option maxHeartbeats 4000000 in
set_option maxRecDepth 100000 in
theorem c_X6_tells (l : Launch) (D : va_G) (cc : Nat → ClassId) (A : Nat → Prop) (ad : Nat → Nat) (rs : va_W) (x1 : Int32) (x2 : Int32) (μ : Mem) (K : Int32 → Mem → Prop) (h : f_X6_tells x1 x2 μ K) : Met l yX6_tells wsX6_tells ({ frames := 0, cells := 0, slots := 0, locals := 0 }) (va_Pc [.ref (ad 0), .int x1, .int x2] (PW shM 18 D cc A ad rs μ)) (va_Qi K (PW shM 18 D cc A ad rs) A) 0 0 A := by
  refine Met.ofW (cc := cX6_tells) (maxL := 6) (ret := (some .int)) (by decide) rfl ?_
  intro p e s m args below meth c s₁ BB hml hv
  obtain ⟨rfl, hP, hK, hD, hN⟩ := hv
  have hx := BB.exec
  have hb := BB.bytes
  have hr := BB.returns
  have hts := atoms_spec (ws := wsX6_tells) BB.pre
  have hown : s.vm.findClass RX6 = some m.cls := findClass_of_methodNamed BB.named
  have hlocks := BB.notSynchronized
  have hi_X6 : ∀ w ∈ u_ws RX6 TX6 22, w ∈ wsX6_tells := by decide +kernel
  have hw0 := hts (.fieldLink RX6 47 "FeatureClashesModel" "apart" "[I") (by decide +kernel)
  have hw1 := hts (.fieldLink RX6 38 "FeatureClashesModel" "from" "[I") (by decide +kernel)
  have hw2 := hts (.fieldLink RX6 41 "FeatureClashesModel" "by" "[I") (by decide +kernel)
  have hS : va_S A s.heap s.heap [] := va_S.rf
  have hl := lv_entry ([.ref (ad 0), .int x1, .int x2]) (n := 6) (Nat.le_of_ble_eq_true rfl)
  rw [lg_entry_eq]
  generalize (lg_sl ([.ref (ad 0), .int x1, .int x2]) ++ List.replicate (6 - (lg_sl ([.ref (ad 0), .int x1, .int x2])).length) Slot.unset).toArray = ls at hl ⊢
  have hl : lv_has ls 6 [(0, .ref (ad 0)), (1, .int x1), (2, .int x2)] := hl
  unfold f_X6_tells at h
  refine (fun h => ?main) (h (fun b1 b2 b3 b4 μ => ∀ (H1 : Heap) (locs : List Loc) (ls : Array Slot), va_P D vwCl (wW shM 18 cc ad μ ++ rs) H1 → va_D A (wW shM 18 cc ad μ ++ rs) → va_S A s.heap H1 locs → lv_has ls 6 [(0, .ref (ad 0)), (1, .int b1), (2, .int b2), (3, .int b3), (4, .int b4)] → W p l e (headSpec wsX6_tells ({ frames := 0, cells := 0, slots := 0, locals := 0 })).room s m ([.ref (ad 0), .int x1, .int x2] : List Value).toArray below meth c H1 locs 0 0 (MQ below (va_Qi K (PW shM 18 D cc A ad rs) A) ([.ref (ad 0), .int x1, .int x2] : List Value).toArray s 0 0 A) (F0 m 5 ls ([]))) (fun b3 b4 b5 μ => ∀ (H1 : Heap) (locs : List Loc) (ls : Array Slot), va_P D vwCl (wW shM 18 cc ad μ ++ rs) H1 → va_D A (wW shM 18 cc ad μ ++ rs) → va_S A s.heap H1 locs → lv_has ls 6 [(0, .ref (ad 0)), (3, .int b3), (4, .int b4), (5, .int b5)] → W p l e (headSpec wsX6_tells ({ frames := 0, cells := 0, slots := 0, locals := 0 })).room s m ([.ref (ad 0), .int x1, .int x2] : List Value).toArray below meth c H1 locs 0 0 (MQ below (va_Qi K (PW shM 18 D cc A ad rs) A) ([.ref (ad 0), .int x1, .int x2] : List Value).toArray s 0 0 A) (F0 m 42 ls ([]))) ?b5 ?b42)
  case main =>
      refine lv_iconst (v := 1) hx hb dX6_tells_0 (by decide) ?_
      refine lv_istore_n (lv' := [(3, .int 1), (0, .ref (ad 0)), (1, .int x1), (2, .int x2)]) hx hb dX6_tells_1 rfl hl (by decide) rfl (fun ls hl => ?_)
      refine lv_iload_n hx hb dX6_tells_2 rfl (lv_at hl 2 rfl) ?_
      refine lv_istore (lv' := [(4, .int x1), (3, .int 1), (0, .ref (ad 0)), (1, .int x1), (2, .int x2)]) hx hb dX6_tells_3 hl (by decide) rfl (fun ls hl => ?_)
      exact h _ _ _ hP hD hS (lv_sub hl [2, 3, 4, 1, 0] rfl)
  case b5 =>
    intro b1 b2 b3 b4 μ h H locs ls hP hD hS hl
    refine lv_iload hx hb dX6_tells_5 (lv_at hl 4 rfl) ?_
    refine lv_if_le (tgt := 25) hx hb dX6_tells_7 (by decide) (fun c1 => ?_) (fun c1 => ?_)
    · have h := h.1 c1
      refine lv_aload_n hx hb dX6_tells_25 rfl (lv_at hl 0 rfl) ?_
      refine zw_get (C := RX6) (T := TX6) (M := 22) (v := .ref (ad 13)) hx hb hts hi_X6 hown hK hP kM_0 rfl 16 (by decide) hw0 rfl dX6_tells_26 ?_
      refine lv_iload_n hx hb dX6_tells_29 rfl (lv_at hl 3 rfl) ?_
      refine lv_iconst (v := 1) hx hb dX6_tells_30 (by decide) ?_
      refine lv_isub hx hb dX6_tells_31 ?_
      refine lv_iload_n hx hb dX6_tells_32 rfl (lv_at hl 2 rfl) ?_
      obtain ⟨hi2, h⟩ := h
      refine zw_iast hx hb hK hP hD hS kM_13 hi2 dX6_tells_33 (fun μ3 H locs eμ3 hP hD hS => ?_)
      have h := h μ3 eμ3
      refine lv_iload_n hx hb dX6_tells_34 rfl (lv_at hl 3 rfl) ?_
      refine lv_iconst (v := 2) hx hb dX6_tells_35 (by decide) ?_
      refine lv_isub hx hb dX6_tells_36 ?_
      refine lv_topi (fun y4 ey4 => ?_)
      have h := h y4 ey4
      refine lv_istore (lv' := [(4, .int y4), (0, .ref (ad 0)), (1, .int b1), (2, .int b2), (3, .int b3)]) hx hb dX6_tells_37 hl (by decide) rfl (fun ls hl => ?_)
      refine lv_iload_n hx hb dX6_tells_39 rfl (lv_at hl 2 rfl) ?_
      refine lv_istore (lv' := [(5, .int b1), (4, .int y4), (0, .ref (ad 0)), (1, .int b1), (2, .int b2), (3, .int b3)]) hx hb dX6_tells_40 hl (by decide) rfl (fun ls hl => ?_)
      exact h _ _ _ hP hD hS (lv_sub hl [2, 5, 1, 0] rfl)
    · have h := h.2 c1
      obtain ⟨y5, ey5⟩ : ∃ y : Int32, y = b3 + 1 := ⟨_, rfl⟩
      have h := h y5 ey5
      refine lv_iinc (v := y5) (lv' := [(3, .int y5), (0, .ref (ad 0)), (1, .int b1), (2, .int b2), (4, .int b4)]) hx hb dX6_tells_10 hl (k := 3) rfl (by rw [ey5]; rfl) (by decide) rfl (fun ls hl => ?_)
      refine lv_aload_n hx hb dX6_tells_13 rfl (lv_at hl 1 rfl) ?_
      refine zw_get (C := RX6) (T := TX6) (M := 22) (v := .ref (ad 10)) hx hb hts hi_X6 hown hK hP kM_0 rfl 13 (by decide) hw1 rfl dX6_tells_14 ?_
      refine lv_iload hx hb dX6_tells_17 (lv_at hl 4 rfl) ?_
      obtain ⟨hi6, h⟩ := h
      refine zw_iald hx hb hK hP kM_10 hi6 dX6_tells_19 ?_
      refine lv_topi (fun y7 ey7 => ?_)
      have h := h y7 ey7
      refine lv_istore (lv' := [(4, .int y7), (3, .int y5), (0, .ref (ad 0)), (1, .int b1), (2, .int b2)]) hx hb dX6_tells_20 hl (by decide) rfl (fun ls hl => ?_)
      refine lv_goto (tgt := 5) hx hb dX6_tells_22 (by decide) ?_
      exact h _ _ _ hP hD hS (lv_sub hl [2, 3, 4, 1, 0] rfl)
  case b42 =>
    intro b3 b4 b5 μ h H locs ls hP hD hS hl
    refine lv_iload hx hb dX6_tells_42 (lv_at hl 3 rfl) ?_
    refine lv_if_le (tgt := 76) hx hb dX6_tells_44 (by decide) (fun c8 => ?_) (fun c8 => ?_)
    · have h := h.1 c8
      refine lv_iload_n hx hb dX6_tells_76 rfl (lv_at hl 1 rfl) ?_
      exact W.iret (v := b3) hx hb hr (fun t ht hW => ⟨⟨b3, μ, rfl, h, PW.to hK hN hP hD t ht hW⟩, hS.F ht⟩) hS.2.2 dX6_tells_77
    · have h := h.2 c8
      refine lv_aload_n hx hb dX6_tells_47 rfl (lv_at hl 0 rfl) ?_
      refine zw_get (C := RX6) (T := TX6) (M := 22) (v := .ref (ad 13)) hx hb hts hi_X6 hown hK hP kM_0 rfl 16 (by decide) hw0 rfl dX6_tells_48 ?_
      refine lv_iload hx hb dX6_tells_51 (lv_at hl 2 rfl) ?_
      refine lv_aload_n hx hb dX6_tells_53 rfl (lv_at hl 0 rfl) ?_
      refine zw_get (C := RX6) (T := TX6) (M := 22) (v := .ref (ad 11)) hx hb hts hi_X6 hown hK hP kM_0 rfl 14 (by decide) hw2 rfl dX6_tells_54 ?_
      refine lv_iload hx hb dX6_tells_57 (lv_at hl 3 rfl) ?_
      obtain ⟨hi9, h⟩ := h
      refine zw_iald hx hb hK hP kM_11 hi9 dX6_tells_59 ?_
      obtain ⟨hi10, h⟩ := h
      refine zw_iast hx hb hK hP hD hS kM_13 hi10 dX6_tells_60 (fun μ11 H locs eμ11 hP hD hS => ?_)
      have h := h μ11 eμ11
      obtain ⟨y12, ey12⟩ : ∃ y : Int32, y = b4 + (-1) := ⟨_, rfl⟩
      have h := h y12 ey12
      refine lv_iinc (v := y12) (lv' := [(4, .int y12), (0, .ref (ad 0)), (3, .int b3), (5, .int b5)]) hx hb dX6_tells_61 hl (k := 2) rfl (by rw [ey12]; rfl) (by decide) rfl (fun ls hl => ?_)
      refine lv_aload_n hx hb dX6_tells_64 rfl (lv_at hl 1 rfl) ?_
      refine zw_get (C := RX6) (T := TX6) (M := 22) (v := .ref (ad 10)) hx hb hts hi_X6 hown hK hP kM_0 rfl 13 (by decide) hw1 rfl dX6_tells_65 ?_
      refine lv_iload hx hb dX6_tells_68 (lv_at hl 3 rfl) ?_
      obtain ⟨hi13, h⟩ := h
      refine zw_iald hx hb hK hP kM_10 hi13 dX6_tells_70 ?_
      refine lv_topi (fun y14 ey14 => ?_)
      have h := h y14 ey14
      refine lv_istore (lv' := [(5, .int y14), (4, .int y12), (0, .ref (ad 0)), (3, .int b3)]) hx hb dX6_tells_71 hl (by decide) rfl (fun ls hl => ?_)
      refine lv_goto (tgt := 42) hx hb dX6_tells_73 (by decide) ?_
      exact h _ _ _ hP hD hS (lv_sub hl [2, 3, 1, 0] rfl)
set_option maxHeartbeats 4000000 in
set_option maxRecDepth 100000 in
theorem c_X6_findApart (l : Launch) (D : va_G) (cc : Nat → ClassId) (A : Nat → Prop) (ad : Nat → Nat) (rs : va_W)  (μ : Mem) (K : Int32 → Mem → Prop) (h : f_X6_findApart  μ K) : Met l yX6_findApart wsX6_findApart ({ frames := 1, cells := 0, slots := 0, locals := 25 }) (va_Pc [.ref (ad 0)] (PW shM 18 D cc A ad rs μ)) (va_Qi K (PW shM 18 D cc A ad rs) A) 0 0 A := by
  refine Met.ofW (cc := cX6_findApart) (maxL := 7) (ret := (some .int)) (by decide) rfl ?_
  intro p e s m args below meth c s₁ BB hml hv
  obtain ⟨rfl, hP, hK, hD, hN⟩ := hv
  have hx := BB.exec
  have hb := BB.bytes
  have hr := BB.returns
  have hts := atoms_spec (ws := wsX6_findApart) BB.pre
  have hown : s.vm.findClass RX6 = some m.cls := findClass_of_methodNamed BB.named
  have hlocks := BB.notSynchronized
  have hi_X6 : ∀ w ∈ u_ws RX6 TX6 22, w ∈ wsX6_findApart := by decide +kernel
  have hw0 := hts (.fieldLink RX6 35 "FeatureClashesModel" "pairs" "[I") (by decide +kernel)
  have hw1 := hts (.fieldLink RX6 38 "FeatureClashesModel" "from" "[I") (by decide +kernel)
  have hw2 := hts (.fieldLink RX6 44 "FeatureClashesModel" "isMet" "[Z") (by decide +kernel)
  have hw3 := hts (.fieldLink RX6 7 "FeatureClashesModel" "v" "[I") (by decide +kernel)
  have hw4 := hts (.fieldLink RX6 29 "FeatureClashesModel" "one" "[I") (by decide +kernel)
  have hw5 := hts (.fieldLink RX6 32 "FeatureClashesModel" "other" "[I") (by decide +kernel)
  have hw6 := hts (.fieldLink RX6 41 "FeatureClashesModel" "by" "[I") (by decide +kernel)
  have hS : va_S A s.heap s.heap [] := va_S.rf
  have hl := lv_entry ([.ref (ad 0)]) (n := 7) (Nat.le_of_ble_eq_true rfl)
  rw [lg_entry_eq]
  generalize (lg_sl ([.ref (ad 0)]) ++ List.replicate (7 - (lg_sl ([.ref (ad 0)])).length) Slot.unset).toArray = ls at hl ⊢
  have hl : lv_has ls 7 [(0, .ref (ad 0))] := hl
  unfold f_X6_findApart at h
  refine (fun h => ?main) (h (fun b1 μ => ∀ (H1 : Heap) (locs : List Loc) (ls : Array Slot), va_P D vwCl (wW shM 18 cc ad μ ++ rs) H1 → va_D A (wW shM 18 cc ad μ ++ rs) → va_S A s.heap H1 locs → lv_has ls 7 [(0, .ref (ad 0)), (1, .int b1)] → W p l e (headSpec wsX6_findApart ({ frames := 1, cells := 0, slots := 0, locals := 25 })).room s m ([.ref (ad 0)] : List Value).toArray below meth c H1 locs 0 0 (MQ below (va_Qi K (PW shM 18 D cc A ad rs) A) ([.ref (ad 0)] : List Value).toArray s 0 0 A) (F0 m 2 ls ([]))) (fun b1 b2 μ => ∀ (H1 : Heap) (locs : List Loc) (ls : Array Slot), va_P D vwCl (wW shM 18 cc ad μ ++ rs) H1 → va_D A (wW shM 18 cc ad μ ++ rs) → va_S A s.heap H1 locs → lv_has ls 7 [(0, .ref (ad 0)), (1, .int b1), (2, .int b2)] → W p l e (headSpec wsX6_findApart ({ frames := 1, cells := 0, slots := 0, locals := 25 })).room s m ([.ref (ad 0)] : List Value).toArray below meth c H1 locs 0 0 (MQ below (va_Qi K (PW shM 18 D cc A ad rs) A) ([.ref (ad 0)] : List Value).toArray s 0 0 A) (F0 m 47 ls ([]))) (fun b1 z0 z1 μ => ∀ (H1 : Heap) (locs : List Loc) (ls : Array Slot), va_P D vwCl (wW shM 18 cc ad μ ++ rs) H1 → va_D A (wW shM 18 cc ad μ ++ rs) → va_S A s.heap H1 locs → lv_has ls 7 [(0, .ref (ad 0)), (1, .int b1)] → W p l e (headSpec wsX6_findApart ({ frames := 1, cells := 0, slots := 0, locals := 25 })).room s m ([.ref (ad 0)] : List Value).toArray below meth c H1 locs 0 0 (MQ below (va_Qi K (PW shM 18 D cc A ad rs) A) ([.ref (ad 0)] : List Value).toArray s 0 0 A) (F0 m 22 ls ([.int z0, .int z1, .ref (ad 12)]))) (fun b1 b2 b3 b4 b5 μ => ∀ (H1 : Heap) (locs : List Loc) (ls : Array Slot), va_P D vwCl (wW shM 18 cc ad μ ++ rs) H1 → va_D A (wW shM 18 cc ad μ ++ rs) → va_S A s.heap H1 locs → lv_has ls 7 [(0, .ref (ad 0)), (1, .int b1), (2, .int b2), (3, .int b3), (4, .int b4), (5, .int b5)] → W p l e (headSpec wsX6_findApart ({ frames := 1, cells := 0, slots := 0, locals := 25 })).room s m ([.ref (ad 0)] : List Value).toArray below meth c H1 locs 0 0 (MQ below (va_Qi K (PW shM 18 D cc A ad rs) A) ([.ref (ad 0)] : List Value).toArray s 0 0 A) (F0 m 76 ls ([]))) (fun b1 b2 b3 b4 b5 μ => ∀ (H1 : Heap) (locs : List Loc) (ls : Array Slot), va_P D vwCl (wW shM 18 cc ad μ ++ rs) H1 → va_D A (wW shM 18 cc ad μ ++ rs) → va_S A s.heap H1 locs → lv_has ls 7 [(0, .ref (ad 0)), (1, .int b1), (2, .int b2), (3, .int b3), (4, .int b4), (5, .int b5)] → W p l e (headSpec wsX6_findApart ({ frames := 1, cells := 0, slots := 0, locals := 25 })).room s m ([.ref (ad 0)] : List Value).toArray below meth c H1 locs 0 0 (MQ below (va_Qi K (PW shM 18 D cc A ad rs) A) ([.ref (ad 0)] : List Value).toArray s 0 0 A) (F0 m 190 ls ([]))) ?b2 ?b47 ?b22 ?b76 ?b190)
  case main =>
      refine lv_iconst (v := 0) hx hb dX6_findApart_0 (by decide) ?_
      refine lv_istore_n (lv' := [(1, .int 0), (0, .ref (ad 0))]) hx hb dX6_findApart_1 rfl hl (by decide) rfl (fun ls hl => ?_)
      exact h _ _ _ hP hD hS (lv_sub hl [1, 0] rfl)
  case b2 =>
    intro b1 μ h H locs ls hP hD hS hl
    refine lv_iload_n hx hb dX6_findApart_2 rfl (lv_at hl 1 rfl) ?_
    refine lv_bipush (v := 81) hx hb dX6_findApart_3 (by decide) ?_
    refine lv_icmp_ge (tgt := 29) hx hb dX6_findApart_5 (by decide) (fun c1 => ?_) (fun c1 => ?_)
    · have h := h.1 c1
      refine lv_aload_n hx hb dX6_findApart_29 rfl (lv_at hl 0 rfl) ?_
      refine zw_get (C := RX6) (T := TX6) (M := 22) (v := .ref (ad 9)) hx hb hts hi_X6 hown hK hP kM_0 rfl 12 (by decide) hw0 rfl dX6_findApart_30 ?_
      refine lv_iconst (v := 0) hx hb dX6_findApart_33 (by decide) ?_
      refine lv_iconst (v := 0) hx hb dX6_findApart_34 (by decide) ?_
      obtain ⟨hi2, h⟩ := h
      refine zw_iast hx hb hK hP hD hS kM_9 hi2 dX6_findApart_35 (fun μ3 H locs eμ3 hP hD hS => ?_)
      have h := h μ3 eμ3
      refine lv_aload_n hx hb dX6_findApart_36 rfl (lv_at hl 0 rfl) ?_
      refine zw_get (C := RX6) (T := TX6) (M := 22) (v := .ref (ad 10)) hx hb hts hi_X6 hown hK hP kM_0 rfl 13 (by decide) hw1 rfl dX6_findApart_37 ?_
      refine lv_iconst (v := 0) hx hb dX6_findApart_40 (by decide) ?_
      refine lv_iconst (v := (-1)) hx hb dX6_findApart_41 (by decide) ?_
      obtain ⟨hi4, h⟩ := h
      refine zw_iast hx hb hK hP hD hS kM_10 hi4 dX6_findApart_42 (fun μ5 H locs eμ5 hP hD hS => ?_)
      have h := h μ5 eμ5
      refine lv_iconst (v := 1) hx hb dX6_findApart_43 (by decide) ?_
      refine lv_istore_n (lv' := [(1, .int 1), (0, .ref (ad 0))]) hx hb dX6_findApart_44 rfl hl (by decide) rfl (fun ls hl => ?_)
      refine lv_iconst (v := 0) hx hb dX6_findApart_45 (by decide) ?_
      refine lv_istore_n (lv' := [(2, .int 0), (1, .int 1), (0, .ref (ad 0))]) hx hb dX6_findApart_46 rfl hl (by decide) rfl (fun ls hl => ?_)
      exact h _ _ _ hP hD hS (lv_sub hl [2, 1, 0] rfl)
    · have h := h.2 c1
      refine lv_aload_n hx hb dX6_findApart_8 rfl (lv_at hl 0 rfl) ?_
      refine zw_get (C := RX6) (T := TX6) (M := 22) (v := .ref (ad 12)) hx hb hts hi_X6 hown hK hP kM_0 rfl 15 (by decide) hw2 rfl dX6_findApart_9 ?_
      refine lv_iload_n hx hb dX6_findApart_12 rfl (lv_at hl 1 rfl) ?_
      refine lv_iload_n hx hb dX6_findApart_13 rfl (lv_at hl 1 rfl) ?_
      refine lv_if_ne (tgt := 21) hx hb dX6_findApart_14 (by decide) (fun c6 => ?_) (fun c6 => ?_)
      · have h := h.1 c6
        refine lv_iconst (v := 0) hx hb dX6_findApart_21 (by decide) ?_
        exact h _ _ _ hP hD hS (lv_sub hl [0, 1] rfl)
      · have h := h.2 c6
        refine lv_iconst (v := 1) hx hb dX6_findApart_17 (by decide) ?_
        refine lv_goto (tgt := 22) hx hb dX6_findApart_18 (by decide) ?_
        exact h _ _ _ hP hD hS (lv_sub hl [0, 1] rfl)
  case b47 =>
    intro b1 b2 μ h H locs ls hP hD hS hl
    refine lv_iload_n hx hb dX6_findApart_47 rfl (lv_at hl 2 rfl) ?_
    refine lv_iload_n hx hb dX6_findApart_48 rfl (lv_at hl 1 rfl) ?_
    refine lv_icmp_ge (tgt := 202) hx hb dX6_findApart_49 (by decide) (fun c7 => ?_) (fun c7 => ?_)
    · have h := h.1 c7
      refine lv_iconst (v := 0) hx hb dX6_findApart_202 (by decide) ?_
      exact W.iret (v := 0) hx hb hr (fun t ht hW => ⟨⟨0, μ, rfl, h, PW.to hK hN hP hD t ht hW⟩, hS.F ht⟩) hS.2.2 dX6_findApart_203
    · have h := h.2 c7
      refine lv_aload_n hx hb dX6_findApart_52 rfl (lv_at hl 0 rfl) ?_
      refine zw_get (C := RX6) (T := TX6) (M := 22) (v := .ref (ad 9)) hx hb hts hi_X6 hown hK hP kM_0 rfl 12 (by decide) hw0 rfl dX6_findApart_53 ?_
      refine lv_iload_n hx hb dX6_findApart_56 rfl (lv_at hl 2 rfl) ?_
      obtain ⟨hi8, h⟩ := h
      refine zw_iald hx hb hK hP kM_9 hi8 dX6_findApart_57 ?_
      refine lv_bipush (v := 9) hx hb dX6_findApart_58 (by decide) ?_
      refine lv_idiv hx hb dX6_findApart_60 (by decide) ?_
      refine lv_topi (fun y9 ey9 => ?_)
      have h := h y9 ey9
      refine lv_istore_n (lv' := [(3, .int y9), (0, .ref (ad 0)), (1, .int b1), (2, .int b2)]) hx hb dX6_findApart_61 rfl hl (by decide) rfl (fun ls hl => ?_)
      refine lv_aload_n hx hb dX6_findApart_62 rfl (lv_at hl 1 rfl) ?_
      refine zw_get (C := RX6) (T := TX6) (M := 22) (v := .ref (ad 9)) hx hb hts hi_X6 hown hK hP kM_0 rfl 12 (by decide) hw0 rfl dX6_findApart_63 ?_
      refine lv_iload_n hx hb dX6_findApart_66 rfl (lv_at hl 3 rfl) ?_
      obtain ⟨hi10, h⟩ := h
      refine zw_iald hx hb hK hP kM_9 hi10 dX6_findApart_67 ?_
      refine lv_bipush (v := 9) hx hb dX6_findApart_68 (by decide) ?_
      refine lv_irem hx hb dX6_findApart_70 (by decide) ?_
      refine lv_topi (fun y11 ey11 => ?_)
      have h := h y11 ey11
      refine lv_istore (lv' := [(4, .int y11), (3, .int y9), (0, .ref (ad 0)), (1, .int b1), (2, .int b2)]) hx hb dX6_findApart_71 hl (by decide) rfl (fun ls hl => ?_)
      refine lv_iconst (v := 0) hx hb dX6_findApart_73 (by decide) ?_
      refine lv_istore (lv' := [(5, .int 0), (4, .int y11), (3, .int y9), (0, .ref (ad 0)), (1, .int b1), (2, .int b2)]) hx hb dX6_findApart_74 hl (by decide) rfl (fun ls hl => ?_)
      exact h _ _ _ hP hD hS (lv_sub hl [3, 4, 5, 2, 1, 0] rfl)
  case b22 =>
    intro b1 z0 z1 μ h H locs ls hP hD hS hl
    obtain ⟨hi12, h⟩ := h
    refine zw_zast hx hb hK hP hD hS kM_12 hi12 dX6_findApart_22 (fun μ13 H locs eμ13 hP hD hS => ?_)
    have h := h μ13 eμ13
    obtain ⟨y14, ey14⟩ : ∃ y : Int32, y = b1 + 1 := ⟨_, rfl⟩
    have h := h y14 ey14
    refine lv_iinc (v := y14) (lv' := [(1, .int y14), (0, .ref (ad 0))]) hx hb dX6_findApart_23 hl (k := 1) rfl (by rw [ey14]; rfl) (by decide) rfl (fun ls hl => ?_)
    refine lv_goto (tgt := 2) hx hb dX6_findApart_26 (by decide) ?_
    exact h _ _ _ hP hD hS (lv_sub hl [1, 0] rfl)
  case b76 =>
    intro b1 b2 b3 b4 b5 μ h H locs ls hP hD hS hl
    refine lv_iload hx hb dX6_findApart_76 (lv_at hl 5 rfl) ?_
    refine lv_aload_n hx hb dX6_findApart_78 rfl (lv_at hl 0 rfl) ?_
    refine zw_get (C := RX6) (T := TX6) (M := 22) (v := .ref (ad 1)) hx hb hts hi_X6 hown hK hP kM_0 rfl 0 (by decide) hw3 rfl dX6_findApart_79 ?_
    refine lv_iconst (v := 1) hx hb dX6_findApart_82 (by decide) ?_
    obtain ⟨hi15, h⟩ := h
    refine zw_iald hx hb hK hP kM_1 hi15 dX6_findApart_83 ?_
    refine lv_icmp_ge (tgt := 196) hx hb dX6_findApart_84 (by decide) (fun c16 => ?_) (fun c16 => ?_)
    · have h := h.1 c16
      obtain ⟨y17, ey17⟩ : ∃ y : Int32, y = b2 + 1 := ⟨_, rfl⟩
      have h := h y17 ey17
      refine lv_iinc (v := y17) (lv' := [(2, .int y17), (0, .ref (ad 0)), (1, .int b1), (3, .int b3), (4, .int b4), (5, .int b5)]) hx hb dX6_findApart_196 hl (k := 2) rfl (by rw [ey17]; rfl) (by decide) rfl (fun ls hl => ?_)
      refine lv_goto (tgt := 47) hx hb dX6_findApart_199 (by decide) ?_
      exact h _ _ _ hP hD hS (lv_sub hl [1, 2, 0] rfl)
    · have h := h.2 c16
      refine lv_aload_n hx hb dX6_findApart_87 rfl (lv_at hl 0 rfl) ?_
      refine zw_get (C := RX6) (T := TX6) (M := 22) (v := .ref (ad 7)) hx hb hts hi_X6 hown hK hP kM_0 rfl 10 (by decide) hw4 rfl dX6_findApart_88 ?_
      refine lv_iload_n hx hb dX6_findApart_91 rfl (lv_at hl 3 rfl) ?_
      refine lv_iload hx hb dX6_findApart_92 (lv_at hl 5 rfl) ?_
      refine zc_i (zc_runS (As := [.ref (ad 7), .int b3, .int b5]) (rest := []) ⟨hx, hb, hml, hown, hts⟩ (c_X6_output l D cc A ad rs 7 kM_7 b3 b5 μ _ h) (va_cwS 3 hts gX6_findApart_X6_output rfl rfl rfl (by decide +kernel) ⟨Nat.le_of_ble_eq_true rfl, Nat.le_of_ble_eq_true rfl⟩) hK hN hP hD rfl hl.1 rfl (Nat.le_of_ble_eq_true rfl) dX6_findApart_94 ⟨Nat.zero_le _, Nat.zero_le _⟩) hS (fun r18 μ19 H locs h hP hD hS => ?_)
      refine lv_aload_n hx hb dX6_findApart_97 rfl (lv_at hl 0 rfl) ?_
      refine zw_get (C := RX6) (T := TX6) (M := 22) (v := .ref (ad 8)) hx hb hts hi_X6 hown hK hP kM_0 rfl 11 (by decide) hw5 rfl dX6_findApart_98 ?_
      refine lv_iload hx hb dX6_findApart_101 (lv_at hl 4 rfl) ?_
      refine lv_iload hx hb dX6_findApart_103 (lv_at hl 5 rfl) ?_
      refine zc_i (zc_runS (As := [.ref (ad 8), .int b4, .int b5]) (rest := [.int r18]) ⟨hx, hb, hml, hown, hts⟩ (c_X6_output l D cc A ad rs 8 kM_8 b4 b5 μ19 _ h) (va_cwS 3 hts gX6_findApart_X6_output rfl rfl rfl (by decide +kernel) ⟨Nat.le_of_ble_eq_true rfl, Nat.le_of_ble_eq_true rfl⟩) hK hN hP hD rfl hl.1 rfl (Nat.le_of_ble_eq_true rfl) dX6_findApart_105 ⟨Nat.zero_le _, Nat.zero_le _⟩) hS (fun r20 μ21 H locs h hP hD hS => ?_)
      refine lv_icmp_eq (tgt := 119) hx hb dX6_findApart_108 (by decide) (fun c22 => ?_) (fun c22 => ?_)
      · have h := h.1 c22
        refine lv_bipush (v := 9) hx hb dX6_findApart_119 (by decide) ?_
        refine lv_aload_n hx hb dX6_findApart_121 rfl (lv_at hl 0 rfl) ?_
        refine zw_get (C := RX6) (T := TX6) (M := 22) (v := .ref (ad 7)) hx hb hts hi_X6 hown hK hP kM_0 rfl 10 (by decide) hw4 rfl dX6_findApart_122 ?_
        refine lv_iload_n hx hb dX6_findApart_125 rfl (lv_at hl 3 rfl) ?_
        refine lv_iload hx hb dX6_findApart_126 (lv_at hl 5 rfl) ?_
        refine zc_i (zc_runS (As := [.ref (ad 7), .int b3, .int b5]) (rest := [.int 9]) ⟨hx, hb, hml, hown, hts⟩ (c_X6_next l D cc A ad rs 7 kM_7 b3 b5 μ21 _ h) (va_cwS 3 hts gX6_findApart_X6_next rfl rfl rfl (by decide +kernel) ⟨Nat.le_of_ble_eq_true rfl, Nat.le_of_ble_eq_true rfl⟩) hK hN hP hD rfl hl.1 rfl (Nat.le_of_ble_eq_true rfl) dX6_findApart_128 ⟨Nat.zero_le _, Nat.zero_le _⟩) hS (fun r23 μ24 H locs h hP hD hS => ?_)
        refine lv_imul hx hb dX6_findApart_131 ?_
        refine lv_aload_n hx hb dX6_findApart_132 rfl (lv_at hl 0 rfl) ?_
        refine zw_get (C := RX6) (T := TX6) (M := 22) (v := .ref (ad 8)) hx hb hts hi_X6 hown hK hP kM_0 rfl 11 (by decide) hw5 rfl dX6_findApart_133 ?_
        refine lv_iload hx hb dX6_findApart_136 (lv_at hl 4 rfl) ?_
        refine lv_iload hx hb dX6_findApart_138 (lv_at hl 5 rfl) ?_
        refine zc_i (zc_runS (As := [.ref (ad 8), .int b4, .int b5]) (rest := [.int (9 * r23)]) ⟨hx, hb, hml, hown, hts⟩ (c_X6_next l D cc A ad rs 8 kM_8 b4 b5 μ24 _ h) (va_cwS 3 hts gX6_findApart_X6_next rfl rfl rfl (by decide +kernel) ⟨Nat.le_of_ble_eq_true rfl, Nat.le_of_ble_eq_true rfl⟩) hK hN hP hD rfl hl.1 rfl (Nat.le_of_ble_eq_true rfl) dX6_findApart_140 ⟨Nat.zero_le _, Nat.zero_le _⟩) hS (fun r25 μ26 H locs h hP hD hS => ?_)
        refine lv_iadd hx hb dX6_findApart_143 ?_
        refine lv_topi (fun y27 ey27 => ?_)
        have h := h y27 ey27
        refine lv_istore (lv' := [(6, .int y27), (0, .ref (ad 0)), (1, .int b1), (2, .int b2), (3, .int b3), (4, .int b4), (5, .int b5)]) hx hb dX6_findApart_144 hl (by decide) rfl (fun ls hl => ?_)
        refine lv_aload_n hx hb dX6_findApart_146 rfl (lv_at hl 1 rfl) ?_
        refine zw_get (C := RX6) (T := TX6) (M := 22) (v := .ref (ad 12)) hx hb hts hi_X6 hown hK hP kM_0 rfl 15 (by decide) hw2 rfl dX6_findApart_147 ?_
        refine lv_iload hx hb dX6_findApart_150 (lv_at hl 0 rfl) ?_
        obtain ⟨hi28, h⟩ := h
        refine zw_zald hx hb hK hP kM_12 hi28 dX6_findApart_152 ?_
        refine lv_if_ne (tgt := 190) hx hb dX6_findApart_153 (by decide) (fun c29 => ?_) (fun c29 => ?_)
        · have h := h.1 c29
          exact h _ _ _ hP hD hS (lv_sub hl [1, 2, 3, 4, 5, 6] rfl)
        · have h := h.2 c29
          refine lv_aload_n hx hb dX6_findApart_156 rfl (lv_at hl 1 rfl) ?_
          refine zw_get (C := RX6) (T := TX6) (M := 22) (v := .ref (ad 12)) hx hb hts hi_X6 hown hK hP kM_0 rfl 15 (by decide) hw2 rfl dX6_findApart_157 ?_
          refine lv_iload hx hb dX6_findApart_160 (lv_at hl 0 rfl) ?_
          refine lv_iconst (v := 1) hx hb dX6_findApart_162 (by decide) ?_
          obtain ⟨hi30, h⟩ := h
          refine zw_zast hx hb hK hP hD hS kM_12 hi30 dX6_findApart_163 (fun μ31 H locs eμ31 hP hD hS => ?_)
          have h := h μ31 eμ31
          refine lv_aload_n hx hb dX6_findApart_164 rfl (lv_at hl 1 rfl) ?_
          refine zw_get (C := RX6) (T := TX6) (M := 22) (v := .ref (ad 9)) hx hb hts hi_X6 hown hK hP kM_0 rfl 12 (by decide) hw0 rfl dX6_findApart_165 ?_
          refine lv_iload_n hx hb dX6_findApart_168 rfl (lv_at hl 2 rfl) ?_
          refine lv_iload hx hb dX6_findApart_169 (lv_at hl 0 rfl) ?_
          obtain ⟨hi32, h⟩ := h
          refine zw_iast hx hb hK hP hD hS kM_9 hi32 dX6_findApart_171 (fun μ33 H locs eμ33 hP hD hS => ?_)
          have h := h μ33 eμ33
          refine lv_aload_n hx hb dX6_findApart_172 rfl (lv_at hl 1 rfl) ?_
          refine zw_get (C := RX6) (T := TX6) (M := 22) (v := .ref (ad 10)) hx hb hts hi_X6 hown hK hP kM_0 rfl 13 (by decide) hw1 rfl dX6_findApart_173 ?_
          refine lv_iload_n hx hb dX6_findApart_176 rfl (lv_at hl 2 rfl) ?_
          refine lv_iload_n hx hb dX6_findApart_177 rfl (lv_at hl 3 rfl) ?_
          obtain ⟨hi34, h⟩ := h
          refine zw_iast hx hb hK hP hD hS kM_10 hi34 dX6_findApart_178 (fun μ35 H locs eμ35 hP hD hS => ?_)
          have h := h μ35 eμ35
          refine lv_aload_n hx hb dX6_findApart_179 rfl (lv_at hl 1 rfl) ?_
          refine zw_get (C := RX6) (T := TX6) (M := 22) (v := .ref (ad 11)) hx hb hts hi_X6 hown hK hP kM_0 rfl 14 (by decide) hw6 rfl dX6_findApart_180 ?_
          refine lv_iload_n hx hb dX6_findApart_183 rfl (lv_at hl 2 rfl) ?_
          refine lv_iload hx hb dX6_findApart_184 (lv_at hl 6 rfl) ?_
          obtain ⟨hi36, h⟩ := h
          refine zw_iast hx hb hK hP hD hS kM_11 hi36 dX6_findApart_186 (fun μ37 H locs eμ37 hP hD hS => ?_)
          have h := h μ37 eμ37
          obtain ⟨y38, ey38⟩ : ∃ y : Int32, y = b1 + 1 := ⟨_, rfl⟩
          have h := h y38 ey38
          refine lv_iinc (v := y38) (lv' := [(1, .int y38), (6, .int y27), (0, .ref (ad 0)), (2, .int b2), (3, .int b3), (4, .int b4), (5, .int b5)]) hx hb dX6_findApart_187 hl (k := 2) rfl (by rw [ey38]; rfl) (by decide) rfl (fun ls hl => ?_)
          exact h _ _ _ hP hD hS (lv_sub hl [2, 0, 3, 4, 5, 6] rfl)
      · have h := h.2 c22
        refine lv_aload_n hx hb dX6_findApart_111 rfl (lv_at hl 0 rfl) ?_
        refine lv_iload_n hx hb dX6_findApart_112 rfl (lv_at hl 2 rfl) ?_
        refine lv_iload hx hb dX6_findApart_113 (lv_at hl 5 rfl) ?_
        refine zc_i (zc_runV (As := [.int b2, .int b5]) (rest := []) ⟨hx, hb, hml, hown, hts⟩ (c_X6_tells l D cc A ad rs b2 b5 μ21 _ h) (cwV 2 hts gX6_findApart_X6_tells rfl rfl rfl (by decide +kernel) ⟨Nat.le_of_ble_eq_true rfl, Nat.le_of_ble_eq_true rfl⟩) kM_0 rfl hK hN hP hD rfl hl.1 rfl (Nat.le_of_ble_eq_true rfl) dX6_findApart_115 ⟨Nat.zero_le _, Nat.zero_le _⟩) hS (fun r39 μ40 H locs h hP hD hS => ?_)
        exact W.iret (v := r39) hx hb hr (fun t ht hW => ⟨⟨r39, μ40, rfl, h, PW.to hK hN hP hD t ht hW⟩, hS.F ht⟩) hS.2.2 dX6_findApart_118
  case b190 =>
    intro b1 b2 b3 b4 b5 μ h H locs ls hP hD hS hl
    obtain ⟨y41, ey41⟩ : ∃ y : Int32, y = b5 + 1 := ⟨_, rfl⟩
    have h := h y41 ey41
    refine lv_iinc (v := y41) (lv' := [(5, .int y41), (0, .ref (ad 0)), (1, .int b1), (2, .int b2), (3, .int b3), (4, .int b4)]) hx hb dX6_findApart_190 hl (k := 5) rfl (by rw [ey41]; rfl) (by decide) rfl (fun ls hl => ?_)
    refine lv_goto (tgt := 76) hx hb dX6_findApart_193 (by decide) ?_
    exact h _ _ _ hP hD hS (lv_sub hl [1, 2, 3, 4, 5, 0] rfl)
set_option maxHeartbeats 4000000 in
set_option maxRecDepth 100000 in
theorem c_X6_findWitness (l : Launch) (D : va_G) (cc : Nat → ClassId) (A : Nat → Prop) (ad : Nat → Nat) (rs : va_W) (x1 : Int32) (x2 : Int32) (μ : Mem) (K : Int32 → Mem → Prop) (h : f_X6_findWitness x1 x2 μ K) : Met l yX6_findWitness wsX6_findWitness ({ frames := 2, cells := 0, slots := 0, locals := 51 }) (va_Pc [.ref (ad 0), .int x1, .int x2] (PW shM 18 D cc A ad rs μ)) (va_Qi K (PW shM 18 D cc A ad rs) A) 0 0 A := by
  refine Met.ofW (cc := cX6_findWitness) (maxL := 3) (ret := (some .int)) (by decide) rfl ?_
  intro p e s m args below meth c s₁ BB hml hv
  obtain ⟨rfl, hP, hK, hD, hN⟩ := hv
  have hx := BB.exec
  have hb := BB.bytes
  have hr := BB.returns
  have hts := atoms_spec (ws := wsX6_findWitness) BB.pre
  have hown : s.vm.findClass RX6 = some m.cls := findClass_of_methodNamed BB.named
  have hlocks := BB.notSynchronized
  have hi_X6 : ∀ w ∈ u_ws RX6 TX6 22, w ∈ wsX6_findWitness := by decide +kernel
  have hw0 := hts (.fieldLink RX6 29 "FeatureClashesModel" "one" "[I") (by decide +kernel)
  have hw1 := hts (.fieldLink RX6 32 "FeatureClashesModel" "other" "[I") (by decide +kernel)
  have hS : va_S A s.heap s.heap [] := va_S.rf
  have hl := lv_entry ([.ref (ad 0), .int x1, .int x2]) (n := 3) (Nat.le_of_ble_eq_true rfl)
  rw [lg_entry_eq]
  generalize (lg_sl ([.ref (ad 0), .int x1, .int x2]) ++ List.replicate (3 - (lg_sl ([.ref (ad 0), .int x1, .int x2])).length) Slot.unset).toArray = ls at hl ⊢
  have hl : lv_has ls 3 [(0, .ref (ad 0)), (1, .int x1), (2, .int x2)] := hl
  unfold f_X6_findWitness at h
  refine lv_aload_n hx hb dX6_findWitness_0 rfl (lv_at hl 0 rfl) ?_
  refine lv_aload_n hx hb dX6_findWitness_1 rfl (lv_at hl 0 rfl) ?_
  refine zw_get (C := RX6) (T := TX6) (M := 22) (v := .ref (ad 7)) hx hb hts hi_X6 hown hK hP kM_0 rfl 10 (by decide) hw0 rfl dX6_findWitness_2 ?_
  refine zc_v (zc_runV (As := [.ref (ad 7)]) (rest := []) ⟨hx, hb, hml, hown, hts⟩ (c_X6_base l D cc A ad rs 7 kM_7 μ _ h) (cwV 1 hts gX6_findWitness_X6_base rfl rfl rfl (by decide +kernel) ⟨Nat.le_of_ble_eq_true rfl, Nat.le_of_ble_eq_true rfl⟩) kM_0 rfl hK hN hP hD rfl hl.1 rfl (Nat.le_of_ble_eq_true rfl) dX6_findWitness_5 ⟨Nat.zero_le _, Nat.zero_le _⟩) hS (fun μ2 H locs h hP hD hS => ?_)
  refine lv_aload_n hx hb dX6_findWitness_8 rfl (lv_at hl 0 rfl) ?_
  refine lv_aload_n hx hb dX6_findWitness_9 rfl (lv_at hl 0 rfl) ?_
  refine zw_get (C := RX6) (T := TX6) (M := 22) (v := .ref (ad 7)) hx hb hts hi_X6 hown hK hP kM_0 rfl 10 (by decide) hw0 rfl dX6_findWitness_10 ?_
  refine lv_iload_n hx hb dX6_findWitness_13 rfl (lv_at hl 1 rfl) ?_
  refine zc_v (zc_runV (As := [.ref (ad 7), .int x1]) (rest := []) ⟨hx, hb, hml, hown, hts⟩ (c_X6_putsOn l D cc A ad rs 7 kM_7 x1 μ2 _ h) (cwV 2 hts gX6_findWitness_X6_putsOn rfl rfl rfl (by decide +kernel) ⟨Nat.le_of_ble_eq_true rfl, Nat.le_of_ble_eq_true rfl⟩) kM_0 rfl hK hN hP hD rfl hl.1 rfl (Nat.le_of_ble_eq_true rfl) dX6_findWitness_14 ⟨Nat.zero_le _, Nat.zero_le _⟩) hS (fun μ4 H locs h hP hD hS => ?_)
  refine lv_aload_n hx hb dX6_findWitness_17 rfl (lv_at hl 0 rfl) ?_
  refine lv_aload_n hx hb dX6_findWitness_18 rfl (lv_at hl 0 rfl) ?_
  refine zw_get (C := RX6) (T := TX6) (M := 22) (v := .ref (ad 7)) hx hb hts hi_X6 hown hK hP kM_0 rfl 10 (by decide) hw0 rfl dX6_findWitness_19 ?_
  refine lv_iload_n hx hb dX6_findWitness_22 rfl (lv_at hl 2 rfl) ?_
  refine zc_v (zc_runV (As := [.ref (ad 7), .int x2]) (rest := []) ⟨hx, hb, hml, hown, hts⟩ (c_X6_putsOn l D cc A ad rs 7 kM_7 x2 μ4 _ h) (cwV 2 hts gX6_findWitness_X6_putsOn rfl rfl rfl (by decide +kernel) ⟨Nat.le_of_ble_eq_true rfl, Nat.le_of_ble_eq_true rfl⟩) kM_0 rfl hK hN hP hD rfl hl.1 rfl (Nat.le_of_ble_eq_true rfl) dX6_findWitness_23 ⟨Nat.zero_le _, Nat.zero_le _⟩) hS (fun μ6 H locs h hP hD hS => ?_)
  refine lv_aload_n hx hb dX6_findWitness_26 rfl (lv_at hl 0 rfl) ?_
  refine lv_aload_n hx hb dX6_findWitness_27 rfl (lv_at hl 0 rfl) ?_
  refine zw_get (C := RX6) (T := TX6) (M := 22) (v := .ref (ad 8)) hx hb hts hi_X6 hown hK hP kM_0 rfl 11 (by decide) hw1 rfl dX6_findWitness_28 ?_
  refine zc_v (zc_runV (As := [.ref (ad 8)]) (rest := []) ⟨hx, hb, hml, hown, hts⟩ (c_X6_base l D cc A ad rs 8 kM_8 μ6 _ h) (cwV 1 hts gX6_findWitness_X6_base rfl rfl rfl (by decide +kernel) ⟨Nat.le_of_ble_eq_true rfl, Nat.le_of_ble_eq_true rfl⟩) kM_0 rfl hK hN hP hD rfl hl.1 rfl (Nat.le_of_ble_eq_true rfl) dX6_findWitness_31 ⟨Nat.zero_le _, Nat.zero_le _⟩) hS (fun μ8 H locs h hP hD hS => ?_)
  refine lv_aload_n hx hb dX6_findWitness_34 rfl (lv_at hl 0 rfl) ?_
  refine lv_aload_n hx hb dX6_findWitness_35 rfl (lv_at hl 0 rfl) ?_
  refine zw_get (C := RX6) (T := TX6) (M := 22) (v := .ref (ad 8)) hx hb hts hi_X6 hown hK hP kM_0 rfl 11 (by decide) hw1 rfl dX6_findWitness_36 ?_
  refine lv_iload_n hx hb dX6_findWitness_39 rfl (lv_at hl 2 rfl) ?_
  refine zc_v (zc_runV (As := [.ref (ad 8), .int x2]) (rest := []) ⟨hx, hb, hml, hown, hts⟩ (c_X6_putsOn l D cc A ad rs 8 kM_8 x2 μ8 _ h) (cwV 2 hts gX6_findWitness_X6_putsOn rfl rfl rfl (by decide +kernel) ⟨Nat.le_of_ble_eq_true rfl, Nat.le_of_ble_eq_true rfl⟩) kM_0 rfl hK hN hP hD rfl hl.1 rfl (Nat.le_of_ble_eq_true rfl) dX6_findWitness_40 ⟨Nat.zero_le _, Nat.zero_le _⟩) hS (fun μ10 H locs h hP hD hS => ?_)
  refine lv_aload_n hx hb dX6_findWitness_43 rfl (lv_at hl 0 rfl) ?_
  refine lv_aload_n hx hb dX6_findWitness_44 rfl (lv_at hl 0 rfl) ?_
  refine zw_get (C := RX6) (T := TX6) (M := 22) (v := .ref (ad 8)) hx hb hts hi_X6 hown hK hP kM_0 rfl 11 (by decide) hw1 rfl dX6_findWitness_45 ?_
  refine lv_iload_n hx hb dX6_findWitness_48 rfl (lv_at hl 1 rfl) ?_
  refine zc_v (zc_runV (As := [.ref (ad 8), .int x1]) (rest := []) ⟨hx, hb, hml, hown, hts⟩ (c_X6_putsOn l D cc A ad rs 8 kM_8 x1 μ10 _ h) (cwV 2 hts gX6_findWitness_X6_putsOn rfl rfl rfl (by decide +kernel) ⟨Nat.le_of_ble_eq_true rfl, Nat.le_of_ble_eq_true rfl⟩) kM_0 rfl hK hN hP hD rfl hl.1 rfl (Nat.le_of_ble_eq_true rfl) dX6_findWitness_49 ⟨Nat.zero_le _, Nat.zero_le _⟩) hS (fun μ12 H locs h hP hD hS => ?_)
  refine lv_aload_n hx hb dX6_findWitness_52 rfl (lv_at hl 0 rfl) ?_
  refine zc_i (zc_runV (As := []) (rest := []) ⟨hx, hb, hml, hown, hts⟩ (c_X6_findApart l D cc A ad rs  μ12 _ h) (cwV 0 hts gX6_findWitness_X6_findApart rfl rfl rfl (by decide +kernel) ⟨Nat.le_of_ble_eq_true rfl, Nat.le_of_ble_eq_true rfl⟩) kM_0 rfl hK hN hP hD rfl hl.1 rfl (Nat.le_of_ble_eq_true rfl) dX6_findWitness_53 ⟨Nat.zero_le _, Nat.zero_le _⟩) hS (fun r13 μ14 H locs h hP hD hS => ?_)
  exact W.iret (v := r13) hx hb hr (fun t ht hW => ⟨⟨r13, μ14, rfl, h, PW.to hK hN hP hD t ht hW⟩, hS.F ht⟩) hS.2.2 dX6_findWitness_56
set_option maxHeartbeats 4000000 in
set_option maxRecDepth 100000 in
theorem c_X6_isPair (l : Launch) (D : va_G) (cc : Nat → ClassId) (A : Nat → Prop) (ad : Nat → Nat) (rs : va_W) (x1 : Int32) (x2 : Int32) (μ : Mem) (K : Int32 → Mem → Prop) (h : f_X6_isPair x1 x2 μ K) : Met l yX6_isPair wsX6_isPair ({ frames := 2, cells := 0, slots := 0, locals := 43 }) (va_Pc [.ref (ad 0), .int x1, .int x2] (PW shM 18 D cc A ad rs μ)) (va_Qi K (PW shM 18 D cc A ad rs) A) 0 0 A := by
  refine Met.ofW (cc := cX6_isPair) (maxL := 3) (ret := (some .boolean)) (by decide) rfl ?_
  intro p e s m args below meth c s₁ BB hml hv
  obtain ⟨rfl, hP, hK, hD, hN⟩ := hv
  have hx := BB.exec
  have hb := BB.bytes
  have hr := BB.returns
  have hts := atoms_spec (ws := wsX6_isPair) BB.pre
  have hown : s.vm.findClass RX6 = some m.cls := findClass_of_methodNamed BB.named
  have hlocks := BB.notSynchronized
  have hS : va_S A s.heap s.heap [] := va_S.rf
  have hl := lv_entry ([.ref (ad 0), .int x1, .int x2]) (n := 3) (Nat.le_of_ble_eq_true rfl)
  rw [lg_entry_eq]
  generalize (lg_sl ([.ref (ad 0), .int x1, .int x2]) ++ List.replicate (3 - (lg_sl ([.ref (ad 0), .int x1, .int x2])).length) Slot.unset).toArray = ls at hl ⊢
  have hl : lv_has ls 3 [(0, .ref (ad 0)), (1, .int x1), (2, .int x2)] := hl
  unfold f_X6_isPair at h
  refine lv_aload_n hx hb dX6_isPair_0 rfl (lv_at hl 0 rfl) ?_
  refine lv_iload_n hx hb dX6_isPair_1 rfl (lv_at hl 1 rfl) ?_
  refine zc_i (zc_runV (As := [.int x1]) (rest := []) ⟨hx, hb, hml, hown, hts⟩ (c_X6_isFeature l D cc A ad rs x1 μ _ h) (cwV 1 hts gX6_isPair_X6_isFeature rfl rfl rfl (by decide +kernel) ⟨Nat.le_of_ble_eq_true rfl, Nat.le_of_ble_eq_true rfl⟩) kM_0 rfl hK hN hP hD rfl hl.1 rfl (Nat.le_of_ble_eq_true rfl) dX6_isPair_2 ⟨Nat.zero_le _, Nat.zero_le _⟩) hS (fun r1 μ2 H locs h hP hD hS => ?_)
  refine lv_if_eq (tgt := 25) hx hb dX6_isPair_5 (by decide) (fun c3 => ?_) (fun c3 => ?_)
  · have h := h.1 c3
    refine lv_iconst (v := 0) hx hb dX6_isPair_25 (by decide) ?_
    exact W.zret (ty := .boolean) (v := 0) hx hb hr rfl (fun t ht hW => ⟨⟨0, μ2, rfl, h, PW.to hK hN hP hD t ht hW⟩, hS.F ht⟩) hS.2.2 dX6_isPair_26
  · have h := h.2 c3
    refine lv_aload_n hx hb dX6_isPair_8 rfl (lv_at hl 0 rfl) ?_
    refine lv_iload_n hx hb dX6_isPair_9 rfl (lv_at hl 2 rfl) ?_
    refine zc_i (zc_runV (As := [.int x2]) (rest := []) ⟨hx, hb, hml, hown, hts⟩ (c_X6_isFeature l D cc A ad rs x2 μ2 _ h) (cwV 1 hts gX6_isPair_X6_isFeature rfl rfl rfl (by decide +kernel) ⟨Nat.le_of_ble_eq_true rfl, Nat.le_of_ble_eq_true rfl⟩) kM_0 rfl hK hN hP hD rfl hl.1 rfl (Nat.le_of_ble_eq_true rfl) dX6_isPair_10 ⟨Nat.zero_le _, Nat.zero_le _⟩) hS (fun r4 μ5 H locs h hP hD hS => ?_)
    refine lv_if_eq (tgt := 25) hx hb dX6_isPair_13 (by decide) (fun c6 => ?_) (fun c6 => ?_)
    · have h := h.1 c6
      refine lv_iconst (v := 0) hx hb dX6_isPair_25 (by decide) ?_
      exact W.zret (ty := .boolean) (v := 0) hx hb hr rfl (fun t ht hW => ⟨⟨0, μ5, rfl, h, PW.to hK hN hP hD t ht hW⟩, hS.F ht⟩) hS.2.2 dX6_isPair_26
    · have h := h.2 c6
      refine lv_iload_n hx hb dX6_isPair_16 rfl (lv_at hl 1 rfl) ?_
      refine lv_iload_n hx hb dX6_isPair_17 rfl (lv_at hl 2 rfl) ?_
      refine lv_icmp_eq (tgt := 25) hx hb dX6_isPair_18 (by decide) (fun c7 => ?_) (fun c7 => ?_)
      · have h := h.1 c7
        refine lv_iconst (v := 0) hx hb dX6_isPair_25 (by decide) ?_
        exact W.zret (ty := .boolean) (v := 0) hx hb hr rfl (fun t ht hW => ⟨⟨0, μ5, rfl, h, PW.to hK hN hP hD t ht hW⟩, hS.F ht⟩) hS.2.2 dX6_isPair_26
      · have h := h.2 c7
        refine lv_iconst (v := 1) hx hb dX6_isPair_21 (by decide) ?_
        refine lv_goto (tgt := 26) hx hb dX6_isPair_22 (by decide) ?_
        exact W.zret (ty := .boolean) (v := 1) hx hb hr rfl (fun t ht hW => ⟨⟨1, μ5, rfl, h, PW.to hK hN hP hD t ht hW⟩, hS.F ht⟩) hS.2.2 dX6_isPair_26
set_option maxHeartbeats 4000000 in
set_option maxRecDepth 100000 in
theorem c_X6_clash (l : Launch) (D : va_G) (cc : Nat → ClassId) (A : Nat → Prop) (ad : Nat → Nat) (rs : va_W) (x1 : Int32) (x2 : Int32) (μ : Mem) (K : Int32 → Mem → Prop) (h : f_X6_clash x1 x2 μ K) : Met l yX6_clash wsX6_clash ({ frames := 3, cells := 0, slots := 0, locals := 73 }) (va_Pc [.ref (ad 0), .int x1, .int x2] (PW shM 18 D cc A ad rs μ)) (va_Qi K (PW shM 18 D cc A ad rs) A) 0 0 A := by
  refine Met.ofW (cc := cX6_clash) (maxL := 3) (ret := (some .int)) (by decide) rfl ?_
  intro p e s m args below meth c s₁ BB hml hv
  obtain ⟨rfl, hP, hK, hD, hN⟩ := hv
  have hx := BB.exec
  have hb := BB.bytes
  have hr := BB.returns
  have hts := atoms_spec (ws := wsX6_clash) BB.pre
  have hown : s.vm.findClass RX6 = some m.cls := findClass_of_methodNamed BB.named
  have hlocks := BB.notSynchronized
  have hS : va_S A s.heap s.heap [] := va_S.rf
  have hl := lv_entry ([.ref (ad 0), .int x1, .int x2]) (n := 3) (Nat.le_of_ble_eq_true rfl)
  rw [lg_entry_eq]
  generalize (lg_sl ([.ref (ad 0), .int x1, .int x2]) ++ List.replicate (3 - (lg_sl ([.ref (ad 0), .int x1, .int x2])).length) Slot.unset).toArray = ls at hl ⊢
  have hl : lv_has ls 3 [(0, .ref (ad 0)), (1, .int x1), (2, .int x2)] := hl
  unfold f_X6_clash at h
  refine lv_aload_n hx hb dX6_clash_0 rfl (lv_at hl 0 rfl) ?_
  refine lv_iload_n hx hb dX6_clash_1 rfl (lv_at hl 1 rfl) ?_
  refine lv_iload_n hx hb dX6_clash_2 rfl (lv_at hl 2 rfl) ?_
  refine zc_i (zc_runV (As := [.int x1, .int x2]) (rest := []) ⟨hx, hb, hml, hown, hts⟩ (c_X6_isPair l D cc A ad rs x1 x2 μ _ h) (cwV 2 hts gX6_clash_X6_isPair rfl rfl rfl (by decide +kernel) ⟨Nat.le_of_ble_eq_true rfl, Nat.le_of_ble_eq_true rfl⟩) kM_0 rfl hK hN hP hD rfl hl.1 rfl (Nat.le_of_ble_eq_true rfl) dX6_clash_3 ⟨Nat.zero_le _, Nat.zero_le _⟩) hS (fun r1 μ2 H locs h hP hD hS => ?_)
  refine lv_if_ne (tgt := 13) hx hb dX6_clash_6 (by decide) (fun c3 => ?_) (fun c3 => ?_)
  · have h := h.1 c3
    refine lv_aload_n hx hb dX6_clash_13 rfl (lv_at hl 0 rfl) ?_
    refine lv_iload_n hx hb dX6_clash_14 rfl (lv_at hl 1 rfl) ?_
    refine lv_iload_n hx hb dX6_clash_15 rfl (lv_at hl 2 rfl) ?_
    refine zc_i (zc_runV (As := [.int x1, .int x2]) (rest := []) ⟨hx, hb, hml, hown, hts⟩ (c_X6_findWitness l D cc A ad rs x1 x2 μ2 _ h) (cwV 2 hts gX6_clash_X6_findWitness rfl rfl rfl (by decide +kernel) ⟨Nat.le_of_ble_eq_true rfl, Nat.le_of_ble_eq_true rfl⟩) kM_0 rfl hK hN hP hD rfl hl.1 rfl (Nat.le_of_ble_eq_true rfl) dX6_clash_16 ⟨Nat.zero_le _, Nat.zero_le _⟩) hS (fun r4 μ5 H locs h hP hD hS => ?_)
    refine lv_if_le (tgt := 26) hx hb dX6_clash_19 (by decide) (fun c6 => ?_) (fun c6 => ?_)
    · have h := h.1 c6
      refine lv_iconst (v := 0) hx hb dX6_clash_26 (by decide) ?_
      exact W.iret (v := 0) hx hb hr (fun t ht hW => ⟨⟨0, μ5, rfl, h, PW.to hK hN hP hD t ht hW⟩, hS.F ht⟩) hS.2.2 dX6_clash_27
    · have h := h.2 c6
      refine lv_iconst (v := 1) hx hb dX6_clash_22 (by decide) ?_
      refine lv_goto (tgt := 27) hx hb dX6_clash_23 (by decide) ?_
      exact W.iret (v := 1) hx hb hr (fun t ht hW => ⟨⟨1, μ5, rfl, h, PW.to hK hN hP hD t ht hW⟩, hS.F ht⟩) hS.2.2 dX6_clash_27
  · have h := h.2 c3
    refine lv_iconst (v := (-1)) hx hb dX6_clash_9 (by decide) ?_
    refine lv_goto (tgt := 27) hx hb dX6_clash_10 (by decide) ?_
    exact W.iret (v := (-1)) hx hb hr (fun t ht hW => ⟨⟨(-1), μ2, rfl, h, PW.to hK hN hP hD t ht hW⟩, hS.F ht⟩) hS.2.2 dX6_clash_27
set_option maxHeartbeats 4000000 in
set_option maxRecDepth 100000 in
theorem c_X6_witness (l : Launch) (D : va_G) (cc : Nat → ClassId) (A : Nat → Prop) (ad : Nat → Nat) (rs : va_W) (x1 : Int32) (x2 : Int32) (x3 : Int32) (μ : Mem) (K : Int32 → Mem → Prop) (h : f_X6_witness x1 x2 x3 μ K) : Met l yX6_witness wsX6_witness ({ frames := 3, cells := 0, slots := 0, locals := 73 }) (va_Pc [.ref (ad 0), .int x1, .int x2, .int x3] (PW shM 18 D cc A ad rs μ)) (va_Qi K (PW shM 18 D cc A ad rs) A) 0 0 A := by
  refine Met.ofW (cc := cX6_witness) (maxL := 5) (ret := (some .int)) (by decide) rfl ?_
  intro p e s m args below meth c s₁ BB hml hv
  obtain ⟨rfl, hP, hK, hD, hN⟩ := hv
  have hx := BB.exec
  have hb := BB.bytes
  have hr := BB.returns
  have hts := atoms_spec (ws := wsX6_witness) BB.pre
  have hown : s.vm.findClass RX6 = some m.cls := findClass_of_methodNamed BB.named
  have hlocks := BB.notSynchronized
  have hi_X6 : ∀ w ∈ u_ws RX6 TX6 22, w ∈ wsX6_witness := by decide +kernel
  have hw0 := hts (.fieldLink RX6 47 "FeatureClashesModel" "apart" "[I") (by decide +kernel)
  have hS : va_S A s.heap s.heap [] := va_S.rf
  have hl := lv_entry ([.ref (ad 0), .int x1, .int x2, .int x3]) (n := 5) (Nat.le_of_ble_eq_true rfl)
  rw [lg_entry_eq]
  generalize (lg_sl ([.ref (ad 0), .int x1, .int x2, .int x3]) ++ List.replicate (5 - (lg_sl ([.ref (ad 0), .int x1, .int x2, .int x3])).length) Slot.unset).toArray = ls at hl ⊢
  have hl : lv_has ls 5 [(0, .ref (ad 0)), (1, .int x1), (2, .int x2), (3, .int x3)] := hl
  unfold f_X6_witness at h
  refine lv_aload_n hx hb dX6_witness_0 rfl (lv_at hl 0 rfl) ?_
  refine lv_iload_n hx hb dX6_witness_1 rfl (lv_at hl 1 rfl) ?_
  refine lv_iload_n hx hb dX6_witness_2 rfl (lv_at hl 2 rfl) ?_
  refine zc_i (zc_runV (As := [.int x1, .int x2]) (rest := []) ⟨hx, hb, hml, hown, hts⟩ (c_X6_isPair l D cc A ad rs x1 x2 μ _ h) (cwV 2 hts gX6_witness_X6_isPair rfl rfl rfl (by decide +kernel) ⟨Nat.le_of_ble_eq_true rfl, Nat.le_of_ble_eq_true rfl⟩) kM_0 rfl hK hN hP hD rfl hl.1 rfl (Nat.le_of_ble_eq_true rfl) dX6_witness_3 ⟨Nat.zero_le _, Nat.zero_le _⟩) hS (fun r1 μ2 H locs h hP hD hS => ?_)
  refine lv_if_eq (tgt := 13) hx hb dX6_witness_6 (by decide) (fun c3 => ?_) (fun c3 => ?_)
  · have h := h.1 c3
    refine lv_iconst (v := (-1)) hx hb dX6_witness_13 (by decide) ?_
    exact W.iret (v := (-1)) hx hb hr (fun t ht hW => ⟨⟨(-1), μ2, rfl, h, PW.to hK hN hP hD t ht hW⟩, hS.F ht⟩) hS.2.2 dX6_witness_14
  · have h := h.2 c3
    refine lv_iload_n hx hb dX6_witness_9 rfl (lv_at hl 3 rfl) ?_
    refine lv_if_ge (tgt := 15) hx hb dX6_witness_10 (by decide) (fun c4 => ?_) (fun c4 => ?_)
    · have h := h.1 c4
      refine lv_aload_n hx hb dX6_witness_15 rfl (lv_at hl 0 rfl) ?_
      refine lv_iload_n hx hb dX6_witness_16 rfl (lv_at hl 1 rfl) ?_
      refine lv_iload_n hx hb dX6_witness_17 rfl (lv_at hl 2 rfl) ?_
      refine zc_i (zc_runV (As := [.int x1, .int x2]) (rest := []) ⟨hx, hb, hml, hown, hts⟩ (c_X6_findWitness l D cc A ad rs x1 x2 μ2 _ h) (cwV 2 hts gX6_witness_X6_findWitness rfl rfl rfl (by decide +kernel) ⟨Nat.le_of_ble_eq_true rfl, Nat.le_of_ble_eq_true rfl⟩) kM_0 rfl hK hN hP hD rfl hl.1 rfl (Nat.le_of_ble_eq_true rfl) dX6_witness_18 ⟨Nat.zero_le _, Nat.zero_le _⟩) hS (fun r5 μ6 H locs h hP hD hS => ?_)
      refine lv_istore (lv' := [(4, .int r5), (0, .ref (ad 0)), (1, .int x1), (2, .int x2), (3, .int x3)]) hx hb dX6_witness_21 hl (by decide) rfl (fun ls hl => ?_)
      refine lv_iload_n hx hb dX6_witness_23 rfl (lv_at hl 4 rfl) ?_
      refine lv_iload hx hb dX6_witness_24 (lv_at hl 0 rfl) ?_
      refine lv_icmp_ge (tgt := 38) hx hb dX6_witness_26 (by decide) (fun c7 => ?_) (fun c7 => ?_)
      · have h := h.1 c7
        refine lv_bipush (v := (-5)) hx hb dX6_witness_38 (by decide) ?_
        exact W.iret (v := (-5)) hx hb hr (fun t ht hW => ⟨⟨(-5), μ6, rfl, h, PW.to hK hN hP hD t ht hW⟩, hS.F ht⟩) hS.2.2 dX6_witness_40
      · have h := h.2 c7
        refine lv_aload_n hx hb dX6_witness_29 rfl (lv_at hl 1 rfl) ?_
        refine zw_get (C := RX6) (T := TX6) (M := 22) (v := .ref (ad 13)) hx hb hts hi_X6 hown hK hP kM_0 rfl 16 (by decide) hw0 rfl dX6_witness_30 ?_
        refine lv_iload_n hx hb dX6_witness_33 rfl (lv_at hl 4 rfl) ?_
        obtain ⟨hi8, h⟩ := h
        refine zw_iald hx hb hK hP kM_13 hi8 dX6_witness_34 ?_
        refine lv_goto (tgt := 40) hx hb dX6_witness_35 (by decide) ?_
        exact W.iret (v := μ6.1 13 (x3 : Int32).toNatClampNeg) hx hb hr (fun t ht hW => ⟨⟨μ6.1 13 (x3 : Int32).toNatClampNeg, μ6, rfl, h, PW.to hK hN hP hD t ht hW⟩, hS.F ht⟩) hS.2.2 dX6_witness_40
    · have h := h.2 c4
      refine lv_iconst (v := (-1)) hx hb dX6_witness_13 (by decide) ?_
      exact W.iret (v := (-1)) hx hb hr (fun t ht hW => ⟨⟨(-1), μ2, rfl, h, PW.to hK hN hP hD t ht hW⟩, hS.F ht⟩) hS.2.2 dX6_witness_14
set_option maxHeartbeats 4000000 in
set_option maxRecDepth 100000 in
theorem c_X6_isOn (l : Launch) (D : va_G) (cc : Nat → ClassId) (A : Nat → Prop) (ad : Nat → Nat) (rs : va_W) (x1 : Int32) (μ : Mem) (K : Int32 → Mem → Prop) (h : f_X6_isOn x1 μ K) : Met l yX6_isOn wsX6_isOn ({ frames := 1, cells := 0, slots := 0, locals := 21 }) (va_Pc [.ref (ad 0), .int x1] (PW shM 18 D cc A ad rs μ)) (va_Qi K (PW shM 18 D cc A ad rs) A) 0 0 A := by
  refine Met.ofW (cc := cX6_isOn) (maxL := 2) (ret := (some .boolean)) (by decide) rfl ?_
  intro p e s m args below meth c s₁ BB hml hv
  obtain ⟨rfl, hP, hK, hD, hN⟩ := hv
  have hx := BB.exec
  have hb := BB.bytes
  have hr := BB.returns
  have hts := atoms_spec (ws := wsX6_isOn) BB.pre
  have hown : s.vm.findClass RX6 = some m.cls := findClass_of_methodNamed BB.named
  have hlocks := BB.notSynchronized
  have hi_X6 : ∀ w ∈ u_ws RX6 TX6 22, w ∈ wsX6_isOn := by decide +kernel
  have hw0 := hts (.fieldLink RX6 7 "FeatureClashesModel" "v" "[I") (by decide +kernel)
  have hS : va_S A s.heap s.heap [] := va_S.rf
  have hl := lv_entry ([.ref (ad 0), .int x1]) (n := 2) (Nat.le_of_ble_eq_true rfl)
  rw [lg_entry_eq]
  generalize (lg_sl ([.ref (ad 0), .int x1]) ++ List.replicate (2 - (lg_sl ([.ref (ad 0), .int x1])).length) Slot.unset).toArray = ls at hl ⊢
  have hl : lv_has ls 2 [(0, .ref (ad 0)), (1, .int x1)] := hl
  unfold f_X6_isOn at h
  refine lv_aload_n hx hb dX6_isOn_0 rfl (lv_at hl 0 rfl) ?_
  refine zw_get (C := RX6) (T := TX6) (M := 22) (v := .ref (ad 1)) hx hb hts hi_X6 hown hK hP kM_0 rfl 0 (by decide) hw0 rfl dX6_isOn_1 ?_
  refine lv_iload_n hx hb dX6_isOn_4 rfl (lv_at hl 1 rfl) ?_
  refine lv_iconst (v := 0) hx hb dX6_isOn_5 (by decide) ?_
  refine zc_i (zc_runS (As := [.int x1, .int 0]) (rest := [.ref (ad 1)]) ⟨hx, hb, hml, hown, hts⟩ (c_X6_at l D cc A ad rs x1 0 μ _ h) (va_cwS 2 hts gX6_isOn_X6_at rfl rfl rfl (by decide +kernel) ⟨Nat.le_of_ble_eq_true rfl, Nat.le_of_ble_eq_true rfl⟩) hK hN hP hD rfl hl.1 rfl (Nat.le_of_ble_eq_true rfl) dX6_isOn_6 ⟨Nat.zero_le _, Nat.zero_le _⟩) hS (fun r1 μ2 H locs h hP hD hS => ?_)
  obtain ⟨hi3, h⟩ := h
  refine zw_iald hx hb hK hP kM_1 hi3 dX6_isOn_9 ?_
  refine lv_iconst (v := 1) hx hb dX6_isOn_10 (by decide) ?_
  refine lv_icmp_ne (tgt := 18) hx hb dX6_isOn_11 (by decide) (fun c4 => ?_) (fun c4 => ?_)
  · have h := h.1 c4
    refine lv_iconst (v := 0) hx hb dX6_isOn_18 (by decide) ?_
    exact W.zret (ty := .boolean) (v := 0) hx hb hr rfl (fun t ht hW => ⟨⟨0, μ2, rfl, h, PW.to hK hN hP hD t ht hW⟩, hS.F ht⟩) hS.2.2 dX6_isOn_19
  · have h := h.2 c4
    refine lv_iconst (v := 1) hx hb dX6_isOn_14 (by decide) ?_
    refine lv_goto (tgt := 19) hx hb dX6_isOn_15 (by decide) ?_
    exact W.zret (ty := .boolean) (v := 1) hx hb hr rfl (fun t ht hW => ⟨⟨1, μ2, rfl, h, PW.to hK hN hP hD t ht hW⟩, hS.F ht⟩) hS.2.2 dX6_isOn_19
set_option maxHeartbeats 4000000 in
set_option maxRecDepth 100000 in
theorem c_X6_clashesNow (l : Launch) (D : va_G) (cc : Nat → ClassId) (A : Nat → Prop) (ad : Nat → Nat) (rs : va_W)  (μ : Mem) (K : Int32 → Mem → Prop) (h : f_X6_clashesNow  μ K) : Met l yX6_clashesNow wsX6_clashesNow ({ frames := 3, cells := 0, slots := 0, locals := 73 }) (va_Pc [.ref (ad 0)] (PW shM 18 D cc A ad rs μ)) (va_Qi K (PW shM 18 D cc A ad rs) A) 0 0 A := by
  refine Met.ofW (cc := cX6_clashesNow) (maxL := 4) (ret := (some .int)) (by decide) rfl ?_
  intro p e s m args below meth c s₁ BB hml hv
  obtain ⟨rfl, hP, hK, hD, hN⟩ := hv
  have hx := BB.exec
  have hb := BB.bytes
  have hr := BB.returns
  have hts := atoms_spec (ws := wsX6_clashesNow) BB.pre
  have hown : s.vm.findClass RX6 = some m.cls := findClass_of_methodNamed BB.named
  have hlocks := BB.notSynchronized
  have hi_X6 : ∀ w ∈ u_ws RX6 TX6 22, w ∈ wsX6_clashesNow := by decide +kernel
  have hw0 := hts (.fieldLink RX6 7 "FeatureClashesModel" "v" "[I") (by decide +kernel)
  have hS : va_S A s.heap s.heap [] := va_S.rf
  have hl := lv_entry ([.ref (ad 0)]) (n := 4) (Nat.le_of_ble_eq_true rfl)
  rw [lg_entry_eq]
  generalize (lg_sl ([.ref (ad 0)]) ++ List.replicate (4 - (lg_sl ([.ref (ad 0)])).length) Slot.unset).toArray = ls at hl ⊢
  have hl : lv_has ls 4 [(0, .ref (ad 0))] := hl
  unfold f_X6_clashesNow at h
  refine (fun h => ?main) (h (fun b1 b2 μ => ∀ (H1 : Heap) (locs : List Loc) (ls : Array Slot), va_P D vwCl (wW shM 18 cc ad μ ++ rs) H1 → va_D A (wW shM 18 cc ad μ ++ rs) → va_S A s.heap H1 locs → lv_has ls 4 [(0, .ref (ad 0)), (1, .int b1), (2, .int b2)] → W p l e (headSpec wsX6_clashesNow ({ frames := 3, cells := 0, slots := 0, locals := 73 })).room s m ([.ref (ad 0)] : List Value).toArray below meth c H1 locs 0 0 (MQ below (va_Qi K (PW shM 18 D cc A ad rs) A) ([.ref (ad 0)] : List Value).toArray s 0 0 A) (F0 m 4 ls ([]))) (fun b1 b2 b3 μ => ∀ (H1 : Heap) (locs : List Loc) (ls : Array Slot), va_P D vwCl (wW shM 18 cc ad μ ++ rs) H1 → va_D A (wW shM 18 cc ad μ ++ rs) → va_S A s.heap H1 locs → lv_has ls 4 [(0, .ref (ad 0)), (1, .int b1), (2, .int b2), (3, .int b3)] → W p l e (headSpec wsX6_clashesNow ({ frames := 3, cells := 0, slots := 0, locals := 73 })).room s m ([.ref (ad 0)] : List Value).toArray below meth c H1 locs 0 0 (MQ below (va_Qi K (PW shM 18 D cc A ad rs) A) ([.ref (ad 0)] : List Value).toArray s 0 0 A) (F0 m 17 ls ([]))) (fun b2 b3 z0 μ => ∀ (H1 : Heap) (locs : List Loc) (ls : Array Slot), va_P D vwCl (wW shM 18 cc ad μ ++ rs) H1 → va_D A (wW shM 18 cc ad μ ++ rs) → va_S A s.heap H1 locs → lv_has ls 4 [(0, .ref (ad 0)), (2, .int b2), (3, .int b3)] → W p l e (headSpec wsX6_clashesNow ({ frames := 3, cells := 0, slots := 0, locals := 73 })).room s m ([.ref (ad 0)] : List Value).toArray below meth c H1 locs 0 0 (MQ below (va_Qi K (PW shM 18 D cc A ad rs) A) ([.ref (ad 0)] : List Value).toArray s 0 0 A) (F0 m 52 ls ([.int z0]))) (fun b2 b3 z0 z1 μ => ∀ (H1 : Heap) (locs : List Loc) (ls : Array Slot), va_P D vwCl (wW shM 18 cc ad μ ++ rs) H1 → va_D A (wW shM 18 cc ad μ ++ rs) → va_S A s.heap H1 locs → lv_has ls 4 [(0, .ref (ad 0)), (2, .int b2), (3, .int b3)] → W p l e (headSpec wsX6_clashesNow ({ frames := 3, cells := 0, slots := 0, locals := 73 })).room s m ([.ref (ad 0)] : List Value).toArray below meth c H1 locs 0 0 (MQ below (va_Qi K (PW shM 18 D cc A ad rs) A) ([.ref (ad 0)] : List Value).toArray s 0 0 A) (F0 m 53 ls ([.int z0, .int z1]))) ?b4 ?b17 ?b52 ?b53)
  case main =>
      refine lv_iconst (v := 0) hx hb dX6_clashesNow_0 (by decide) ?_
      refine lv_istore_n (lv' := [(1, .int 0), (0, .ref (ad 0))]) hx hb dX6_clashesNow_1 rfl hl (by decide) rfl (fun ls hl => ?_)
      refine lv_iconst (v := 0) hx hb dX6_clashesNow_2 (by decide) ?_
      refine lv_istore_n (lv' := [(2, .int 0), (1, .int 0), (0, .ref (ad 0))]) hx hb dX6_clashesNow_3 rfl hl (by decide) rfl (fun ls hl => ?_)
      exact h _ _ _ hP hD hS (lv_sub hl [2, 1, 0] rfl)
  case b4 =>
    intro b1 b2 μ h H locs ls hP hD hS hl
    refine lv_iload_n hx hb dX6_clashesNow_4 rfl (lv_at hl 2 rfl) ?_
    refine lv_aload_n hx hb dX6_clashesNow_5 rfl (lv_at hl 0 rfl) ?_
    refine zw_get (C := RX6) (T := TX6) (M := 22) (v := .ref (ad 1)) hx hb hts hi_X6 hown hK hP kM_0 rfl 0 (by decide) hw0 rfl dX6_clashesNow_6 ?_
    refine lv_bipush (v := 34) hx hb dX6_clashesNow_9 (by decide) ?_
    obtain ⟨hi1, h⟩ := h
    refine zw_iald hx hb hK hP kM_1 hi1 dX6_clashesNow_11 ?_
    refine lv_icmp_ge (tgt := 67) hx hb dX6_clashesNow_12 (by decide) (fun c2 => ?_) (fun c2 => ?_)
    · have h := h.1 c2
      refine lv_iload_n hx hb dX6_clashesNow_67 rfl (lv_at hl 1 rfl) ?_
      exact W.iret (v := b1) hx hb hr (fun t ht hW => ⟨⟨b1, μ, rfl, h, PW.to hK hN hP hD t ht hW⟩, hS.F ht⟩) hS.2.2 dX6_clashesNow_68
    · have h := h.2 c2
      refine lv_iconst (v := 0) hx hb dX6_clashesNow_15 (by decide) ?_
      refine lv_istore_n (lv' := [(3, .int 0), (0, .ref (ad 0)), (1, .int b1), (2, .int b2)]) hx hb dX6_clashesNow_16 rfl hl (by decide) rfl (fun ls hl => ?_)
      exact h _ _ _ hP hD hS (lv_sub hl [1, 2, 3, 0] rfl)
  case b17 =>
    intro b1 b2 b3 μ h H locs ls hP hD hS hl
    refine lv_iload_n hx hb dX6_clashesNow_17 rfl (lv_at hl 3 rfl) ?_
    refine lv_iload_n hx hb dX6_clashesNow_18 rfl (lv_at hl 2 rfl) ?_
    refine lv_icmp_ge (tgt := 61) hx hb dX6_clashesNow_19 (by decide) (fun c3 => ?_) (fun c3 => ?_)
    · have h := h.1 c3
      obtain ⟨y4, ey4⟩ : ∃ y : Int32, y = b2 + 1 := ⟨_, rfl⟩
      have h := h y4 ey4
      refine lv_iinc (v := y4) (lv' := [(2, .int y4), (0, .ref (ad 0)), (1, .int b1), (3, .int b3)]) hx hb dX6_clashesNow_61 hl (k := 2) rfl (by rw [ey4]; rfl) (by decide) rfl (fun ls hl => ?_)
      refine lv_goto (tgt := 4) hx hb dX6_clashesNow_64 (by decide) ?_
      exact h _ _ _ hP hD hS (lv_sub hl [1, 2, 0] rfl)
    · have h := h.2 c3
      refine lv_iload_n hx hb dX6_clashesNow_22 rfl (lv_at hl 1 rfl) ?_
      refine lv_aload_n hx hb dX6_clashesNow_23 rfl (lv_at hl 0 rfl) ?_
      refine lv_iload_n hx hb dX6_clashesNow_24 rfl (lv_at hl 2 rfl) ?_
      refine zc_i (zc_runV (As := [.int b2]) (rest := [.int b1]) ⟨hx, hb, hml, hown, hts⟩ (c_X6_isOn l D cc A ad rs b2 μ _ h) (cwV 1 hts gX6_clashesNow_X6_isOn rfl rfl rfl (by decide +kernel) ⟨Nat.le_of_ble_eq_true rfl, Nat.le_of_ble_eq_true rfl⟩) kM_0 rfl hK hN hP hD rfl hl.1 rfl (Nat.le_of_ble_eq_true rfl) dX6_clashesNow_25 ⟨Nat.zero_le _, Nat.zero_le _⟩) hS (fun r5 μ6 H locs h hP hD hS => ?_)
      refine lv_if_eq (tgt := 52) hx hb dX6_clashesNow_28 (by decide) (fun c7 => ?_) (fun c7 => ?_)
      · have h := h.1 c7
        exact h _ _ _ hP hD hS (lv_sub hl [0, 2, 3] rfl)
      · have h := h.2 c7
        refine lv_aload_n hx hb dX6_clashesNow_31 rfl (lv_at hl 0 rfl) ?_
        refine lv_iload_n hx hb dX6_clashesNow_32 rfl (lv_at hl 3 rfl) ?_
        refine zc_i (zc_runV (As := [.int b3]) (rest := [.int b1]) ⟨hx, hb, hml, hown, hts⟩ (c_X6_isOn l D cc A ad rs b3 μ6 _ h) (cwV 1 hts gX6_clashesNow_X6_isOn rfl rfl rfl (by decide +kernel) ⟨Nat.le_of_ble_eq_true rfl, Nat.le_of_ble_eq_true rfl⟩) kM_0 rfl hK hN hP hD rfl hl.1 rfl (Nat.le_of_ble_eq_true rfl) dX6_clashesNow_33 ⟨Nat.zero_le _, Nat.zero_le _⟩) hS (fun r8 μ9 H locs h hP hD hS => ?_)
        refine lv_if_eq (tgt := 52) hx hb dX6_clashesNow_36 (by decide) (fun c10 => ?_) (fun c10 => ?_)
        · have h := h.1 c10
          exact h _ _ _ hP hD hS (lv_sub hl [0, 2, 3] rfl)
        · have h := h.2 c10
          refine lv_aload_n hx hb dX6_clashesNow_39 rfl (lv_at hl 0 rfl) ?_
          refine lv_iload_n hx hb dX6_clashesNow_40 rfl (lv_at hl 3 rfl) ?_
          refine lv_iload_n hx hb dX6_clashesNow_41 rfl (lv_at hl 2 rfl) ?_
          refine zc_i (zc_runV (As := [.int b3, .int b2]) (rest := [.int b1]) ⟨hx, hb, hml, hown, hts⟩ (c_X6_findWitness l D cc A ad rs b3 b2 μ9 _ h) (cwV 2 hts gX6_clashesNow_X6_findWitness rfl rfl rfl (by decide +kernel) ⟨Nat.le_of_ble_eq_true rfl, Nat.le_of_ble_eq_true rfl⟩) kM_0 rfl hK hN hP hD rfl hl.1 rfl (Nat.le_of_ble_eq_true rfl) dX6_clashesNow_42 ⟨Nat.zero_le _, Nat.zero_le _⟩) hS (fun r11 μ12 H locs h hP hD hS => ?_)
          refine lv_if_le (tgt := 52) hx hb dX6_clashesNow_45 (by decide) (fun c13 => ?_) (fun c13 => ?_)
          · have h := h.1 c13
            exact h _ _ _ hP hD hS (lv_sub hl [0, 2, 3] rfl)
          · have h := h.2 c13
            refine lv_iconst (v := 1) hx hb dX6_clashesNow_48 (by decide) ?_
            refine lv_goto (tgt := 53) hx hb dX6_clashesNow_49 (by decide) ?_
            exact h _ _ _ hP hD hS (lv_sub hl [0, 2, 3] rfl)
  case b52 =>
    intro b2 b3 z0 μ h H locs ls hP hD hS hl
    refine lv_iconst (v := 0) hx hb dX6_clashesNow_52 (by decide) ?_
    exact h _ _ _ hP hD hS (lv_sub hl [0, 1, 2] rfl)
  case b53 =>
    intro b2 b3 z0 z1 μ h H locs ls hP hD hS hl
    refine lv_iadd hx hb dX6_clashesNow_53 ?_
    refine lv_topi (fun y14 ey14 => ?_)
    have h := h y14 ey14
    refine lv_istore_n (lv' := [(1, .int y14), (0, .ref (ad 0)), (2, .int b2), (3, .int b3)]) hx hb dX6_clashesNow_54 rfl hl (by decide) rfl (fun ls hl => ?_)
    obtain ⟨y15, ey15⟩ : ∃ y : Int32, y = b3 + 1 := ⟨_, rfl⟩
    have h := h y15 ey15
    refine lv_iinc (v := y15) (lv' := [(3, .int y15), (1, .int y14), (0, .ref (ad 0)), (2, .int b2)]) hx hb dX6_clashesNow_55 hl (k := 3) rfl (by rw [ey15]; rfl) (by decide) rfl (fun ls hl => ?_)
    refine lv_goto (tgt := 17) hx hb dX6_clashesNow_58 (by decide) ?_
    exact h _ _ _ hP hD hS (lv_sub hl [2, 1, 3, 0] rfl)
set_option maxHeartbeats 4000000 in
set_option maxRecDepth 100000 in
theorem c_X6_clashes (l : Launch) (D : va_G) (cc : Nat → ClassId) (A : Nat → Prop) (ad : Nat → Nat) (rs : va_W)  (μ : Mem) (K : Int32 → Mem → Prop) (h : f_X6_clashes  μ K) : Met l yX6_clashes wsX6_clashes ({ frames := 4, cells := 0, slots := 0, locals := 96 }) (va_Pc [.ref (ad 0)] (PW shM 18 D cc A ad rs μ)) (va_Qi K (PW shM 18 D cc A ad rs) A) 0 0 A := by
  refine Met.ofW (cc := cX6_clashes) (maxL := 1) (ret := (some .int)) (by decide) rfl ?_
  intro p e s m args below meth c s₁ BB hml hv
  obtain ⟨rfl, hP, hK, hD, hN⟩ := hv
  have hx := BB.exec
  have hb := BB.bytes
  have hr := BB.returns
  have hts := atoms_spec (ws := wsX6_clashes) BB.pre
  have hown : s.vm.findClass RX6 = some m.cls := findClass_of_methodNamed BB.named
  have hlocks := BB.notSynchronized
  have hS : va_S A s.heap s.heap [] := va_S.rf
  have hl := lv_entry ([.ref (ad 0)]) (n := 1) (Nat.le_of_ble_eq_true rfl)
  rw [lg_entry_eq]
  generalize (lg_sl ([.ref (ad 0)]) ++ List.replicate (1 - (lg_sl ([.ref (ad 0)])).length) Slot.unset).toArray = ls at hl ⊢
  have hl : lv_has ls 1 [(0, .ref (ad 0))] := hl
  unfold f_X6_clashes at h
  refine lv_aload_n hx hb dX6_clashes_0 rfl (lv_at hl 0 rfl) ?_
  refine zc_i (zc_runV (As := []) (rest := []) ⟨hx, hb, hml, hown, hts⟩ (c_X6_clashesNow l D cc A ad rs  μ _ h) (cwV 0 hts gX6_clashes_X6_clashesNow rfl rfl rfl (by decide +kernel) ⟨Nat.le_of_ble_eq_true rfl, Nat.le_of_ble_eq_true rfl⟩) kM_0 rfl hK hN hP hD rfl hl.1 rfl (Nat.le_of_ble_eq_true rfl) dX6_clashes_1 ⟨Nat.zero_le _, Nat.zero_le _⟩) hS (fun r1 μ2 H locs h hP hD hS => ?_)
  exact W.iret (v := r1) hx hb hr (fun t ht hW => ⟨⟨r1, μ2, rfl, h, PW.to hK hN hP hD t ht hW⟩, hS.F ht⟩) hS.2.2 dX6_clashes_4
set_option maxHeartbeats 4000000 in
set_option maxRecDepth 100000 in
theorem c_X6_findThose (l : Launch) (D : va_G) (cc : Nat → ClassId) (A : Nat → Prop) (ad : Nat → Nat) (rs : va_W)  (μ : Mem) (K : Int32 → Mem → Prop) (h : f_X6_findThose  μ K) : Met l yX6_findThose wsX6_findThose ({ frames := 2, cells := 0, slots := 0, locals := 42 }) (va_Pc [.ref (ad 0)] (PW shM 18 D cc A ad rs μ)) (va_Qi K (PW shM 18 D cc A ad rs) A) 0 0 A := by
  refine Met.ofW (cc := cX6_findThose) (maxL := 3) (ret := (some .int)) (by decide) rfl ?_
  intro p e s m args below meth c s₁ BB hml hv
  obtain ⟨rfl, hP, hK, hD, hN⟩ := hv
  have hx := BB.exec
  have hb := BB.bytes
  have hr := BB.returns
  have hts := atoms_spec (ws := wsX6_findThose) BB.pre
  have hown : s.vm.findClass RX6 = some m.cls := findClass_of_methodNamed BB.named
  have hlocks := BB.notSynchronized
  have hi_X6 : ∀ w ∈ u_ws RX6 TX6 22, w ∈ wsX6_findThose := by decide +kernel
  have hw0 := hts (.fieldLink RX6 162 "FeatureClashesModel" "thoseMany" "I") (by decide +kernel)
  have hw1 := hts (.fieldLink RX6 7 "FeatureClashesModel" "v" "[I") (by decide +kernel)
  have hw2 := hts (.fieldLink RX6 50 "FeatureClashesModel" "those" "[I") (by decide +kernel)
  have hS : va_S A s.heap s.heap [] := va_S.rf
  have hl := lv_entry ([.ref (ad 0)]) (n := 3) (Nat.le_of_ble_eq_true rfl)
  rw [lg_entry_eq]
  generalize (lg_sl ([.ref (ad 0)]) ++ List.replicate (3 - (lg_sl ([.ref (ad 0)])).length) Slot.unset).toArray = ls at hl ⊢
  have hl : lv_has ls 3 [(0, .ref (ad 0))] := hl
  unfold f_X6_findThose at h
  refine (fun h => ?main) (h (fun b1 b2 μ => ∀ (H1 : Heap) (locs : List Loc) (ls : Array Slot), va_P D vwCl (wW shM 18 cc ad μ ++ rs) H1 → va_D A (wW shM 18 cc ad μ ++ rs) → va_S A s.heap H1 locs → lv_has ls 3 [(0, .ref (ad 0)), (1, .int b1), (2, .int b2)] → W p l e (headSpec wsX6_findThose ({ frames := 2, cells := 0, slots := 0, locals := 42 })).room s m ([.ref (ad 0)] : List Value).toArray below meth c H1 locs 0 0 (MQ below (va_Qi K (PW shM 18 D cc A ad rs) A) ([.ref (ad 0)] : List Value).toArray s 0 0 A) (F0 m 9 ls ([]))) (fun b1 b2 μ => ∀ (H1 : Heap) (locs : List Loc) (ls : Array Slot), va_P D vwCl (wW shM 18 cc ad μ ++ rs) H1 → va_D A (wW shM 18 cc ad μ ++ rs) → va_S A s.heap H1 locs → lv_has ls 3 [(0, .ref (ad 0)), (1, .int b1), (2, .int b2)] → W p l e (headSpec wsX6_findThose ({ frames := 2, cells := 0, slots := 0, locals := 42 })).room s m ([.ref (ad 0)] : List Value).toArray below meth c H1 locs 0 0 (MQ below (va_Qi K (PW shM 18 D cc A ad rs) A) ([.ref (ad 0)] : List Value).toArray s 0 0 A) (F0 m 55 ls ([]))) ?b9 ?b55)
  case main =>
      refine lv_aload_n hx hb dX6_findThose_0 rfl (lv_at hl 0 rfl) ?_
      refine lv_iconst (v := 0) hx hb dX6_findThose_1 (by decide) ?_
      refine zw_put (C := RX6) (T := TX6) (M := 22) hx hb hts hi_X6 tyX6 tyX6_ok nmX6 hown hK hP hD hS kM_0 rfl 18 (by decide) hw0 rfl rfl (Nat.le_of_ble_eq_true rfl) rfl dX6_findThose_2 (fun μ1 H locs eμ1 hP hD hS => ?_)
      have h := h μ1 eμ1
      refine lv_iconst (v := 1) hx hb dX6_findThose_5 (by decide) ?_
      refine lv_istore_n (lv' := [(1, .int 1), (0, .ref (ad 0))]) hx hb dX6_findThose_6 rfl hl (by decide) rfl (fun ls hl => ?_)
      refine lv_iconst (v := 0) hx hb dX6_findThose_7 (by decide) ?_
      refine lv_istore_n (lv' := [(2, .int 0), (1, .int 1), (0, .ref (ad 0))]) hx hb dX6_findThose_8 rfl hl (by decide) rfl (fun ls hl => ?_)
      exact h _ _ _ hP hD hS (lv_sub hl [2, 1, 0] rfl)
  case b9 =>
    intro b1 b2 μ h H locs ls hP hD hS hl
    refine lv_iload_n hx hb dX6_findThose_9 rfl (lv_at hl 2 rfl) ?_
    refine lv_aload_n hx hb dX6_findThose_10 rfl (lv_at hl 0 rfl) ?_
    refine zw_get (C := RX6) (T := TX6) (M := 22) (v := .ref (ad 1)) hx hb hts hi_X6 hown hK hP kM_0 rfl 0 (by decide) hw1 rfl dX6_findThose_11 ?_
    refine lv_bipush (v := 34) hx hb dX6_findThose_14 (by decide) ?_
    obtain ⟨hi2, h⟩ := h
    refine zw_iald hx hb hK hP kM_1 hi2 dX6_findThose_16 ?_
    refine lv_icmp_ge (tgt := 61) hx hb dX6_findThose_17 (by decide) (fun c3 => ?_) (fun c3 => ?_)
    · have h := h.1 c3
      refine lv_iload_n hx hb dX6_findThose_61 rfl (lv_at hl 1 rfl) ?_
      exact W.iret (v := b1) hx hb hr (fun t ht hW => ⟨⟨b1, μ, rfl, h, PW.to hK hN hP hD t ht hW⟩, hS.F ht⟩) hS.2.2 dX6_findThose_62
    · have h := h.2 c3
      refine lv_aload_n hx hb dX6_findThose_20 rfl (lv_at hl 0 rfl) ?_
      refine lv_iload_n hx hb dX6_findThose_21 rfl (lv_at hl 2 rfl) ?_
      refine zc_i (zc_runV (As := [.int b2]) (rest := []) ⟨hx, hb, hml, hown, hts⟩ (c_X6_isOn l D cc A ad rs b2 μ _ h) (cwV 1 hts gX6_findThose_X6_isOn rfl rfl rfl (by decide +kernel) ⟨Nat.le_of_ble_eq_true rfl, Nat.le_of_ble_eq_true rfl⟩) kM_0 rfl hK hN hP hD rfl hl.1 rfl (Nat.le_of_ble_eq_true rfl) dX6_findThose_22 ⟨Nat.zero_le _, Nat.zero_le _⟩) hS (fun r4 μ5 H locs h hP hD hS => ?_)
      refine lv_if_eq (tgt := 55) hx hb dX6_findThose_25 (by decide) (fun c6 => ?_) (fun c6 => ?_)
      · have h := h.1 c6
        exact h _ _ _ hP hD hS (lv_sub hl [0, 1, 2] rfl)
      · have h := h.2 c6
        refine lv_aload_n hx hb dX6_findThose_28 rfl (lv_at hl 0 rfl) ?_
        refine zw_get (C := RX6) (T := TX6) (M := 22) (v := .ref (ad 14)) hx hb hts hi_X6 hown hK hP kM_0 rfl 17 (by decide) hw2 rfl dX6_findThose_29 ?_
        refine lv_aload_n hx hb dX6_findThose_32 rfl (lv_at hl 0 rfl) ?_
        refine zw_get (C := RX6) (T := TX6) (M := 22) (v := .int (μ5.1 0 18)) hx hb hts hi_X6 hown hK hP kM_0 rfl 18 (by decide) hw0 rfl dX6_findThose_33 ?_
        refine lv_iload_n hx hb dX6_findThose_36 rfl (lv_at hl 2 rfl) ?_
        obtain ⟨hi7, h⟩ := h
        refine zw_iast hx hb hK hP hD hS kM_14 hi7 dX6_findThose_37 (fun μ8 H locs eμ8 hP hD hS => ?_)
        have h := h μ8 eμ8
        refine lv_aload_n hx hb dX6_findThose_38 rfl (lv_at hl 0 rfl) ?_
        refine lv_dup hx hb dX6_findThose_39 rfl ?_
        refine zw_get (C := RX6) (T := TX6) (M := 22) (v := .int (μ8.1 0 18)) hx hb hts hi_X6 hown hK hP kM_0 rfl 18 (by decide) hw0 rfl dX6_findThose_40 ?_
        refine lv_iconst (v := 1) hx hb dX6_findThose_43 (by decide) ?_
        refine lv_iadd hx hb dX6_findThose_44 ?_
        refine zw_put (C := RX6) (T := TX6) (M := 22) hx hb hts hi_X6 tyX6 tyX6_ok nmX6 hown hK hP hD hS kM_0 rfl 18 (by decide) hw0 rfl rfl (Nat.le_of_ble_eq_true rfl) rfl dX6_findThose_45 (fun μ9 H locs eμ9 hP hD hS => ?_)
        have h := h μ9 eμ9
        refine lv_iload_n hx hb dX6_findThose_48 rfl (lv_at hl 1 rfl) ?_
        refine lv_aload_n hx hb dX6_findThose_49 rfl (lv_at hl 0 rfl) ?_
        refine zw_get (C := RX6) (T := TX6) (M := 22) (v := .int (μ9.1 0 18)) hx hb hts hi_X6 hown hK hP kM_0 rfl 18 (by decide) hw0 rfl dX6_findThose_50 ?_
        refine lv_imul hx hb dX6_findThose_53 ?_
        refine lv_topi (fun y10 ey10 => ?_)
        have h := h y10 ey10
        refine lv_istore_n (lv' := [(1, .int y10), (0, .ref (ad 0)), (2, .int b2)]) hx hb dX6_findThose_54 rfl hl (by decide) rfl (fun ls hl => ?_)
        exact h _ _ _ hP hD hS (lv_sub hl [1, 0, 2] rfl)
  case b55 =>
    intro b1 b2 μ h H locs ls hP hD hS hl
    obtain ⟨y11, ey11⟩ : ∃ y : Int32, y = b2 + 1 := ⟨_, rfl⟩
    have h := h y11 ey11
    refine lv_iinc (v := y11) (lv' := [(2, .int y11), (0, .ref (ad 0)), (1, .int b1)]) hx hb dX6_findThose_55 hl (k := 2) rfl (by rw [ey11]; rfl) (by decide) rfl (fun ls hl => ?_)
    refine lv_goto (tgt := 9) hx hb dX6_findThose_58 (by decide) ?_
    exact h _ _ _ hP hD hS (lv_sub hl [1, 2, 0] rfl)
set_option maxHeartbeats 4000000 in
set_option maxRecDepth 100000 in
theorem c_X6_findOrder (l : Launch) (D : va_G) (cc : Nat → ClassId) (A : Nat → Prop) (ad : Nat → Nat) (rs : va_W) (x1 : Int32) (μ : Mem) (K : Mem → Prop) (h : f_X6_findOrder x1 μ K) : Met l yX6_findOrder wsX6_findOrder ({ frames := 0, cells := 0, slots := 0, locals := 0 }) (va_Pc [.ref (ad 0), .int x1] (PW shM 18 D cc A ad rs μ)) (va_Qv K (PW shM 18 D cc A ad rs) A) 0 0 A := by
  refine Met.ofW (cc := cX6_findOrder) (maxL := 8) (ret := none) (by decide) rfl ?_
  intro p e s m args below meth c s₁ BB hml hv
  obtain ⟨rfl, hP, hK, hD, hN⟩ := hv
  have hx := BB.exec
  have hb := BB.bytes
  have hr := BB.returns
  have hts := atoms_spec (ws := wsX6_findOrder) BB.pre
  have hown : s.vm.findClass RX6 = some m.cls := findClass_of_methodNamed BB.named
  have hlocks := BB.notSynchronized
  have hi_X6 : ∀ w ∈ u_ws RX6 TX6 22, w ∈ wsX6_findOrder := by decide +kernel
  have hw0 := hts (.fieldLink RX6 162 "FeatureClashesModel" "thoseMany" "I") (by decide +kernel)
  have hw1 := hts (.fieldLink RX6 53 "FeatureClashesModel" "order" "[I") (by decide +kernel)
  have hw2 := hts (.fieldLink RX6 50 "FeatureClashesModel" "those" "[I") (by decide +kernel)
  have hS : va_S A s.heap s.heap [] := va_S.rf
  have hl := lv_entry ([.ref (ad 0), .int x1]) (n := 8) (Nat.le_of_ble_eq_true rfl)
  rw [lg_entry_eq]
  generalize (lg_sl ([.ref (ad 0), .int x1]) ++ List.replicate (8 - (lg_sl ([.ref (ad 0), .int x1])).length) Slot.unset).toArray = ls at hl ⊢
  have hl : lv_has ls 8 [(0, .ref (ad 0)), (1, .int x1)] := hl
  unfold f_X6_findOrder at h
  refine (fun h => ?main) (h (fun b2 b3 b4 b5 μ => ∀ (H1 : Heap) (locs : List Loc) (ls : Array Slot), va_P D vwCl (wW shM 18 cc ad μ ++ rs) H1 → va_D A (wW shM 18 cc ad μ ++ rs) → va_S A s.heap H1 locs → lv_has ls 8 [(0, .ref (ad 0)), (2, .int b2), (3, .int b3), (4, .int b4), (5, .int b5)] → W p l e (headSpec wsX6_findOrder ({ frames := 0, cells := 0, slots := 0, locals := 0 })).room s m ([.ref (ad 0), .int x1] : List Value).toArray below meth c H1 locs 0 0 (MQ below (va_Qv K (PW shM 18 D cc A ad rs) A) ([.ref (ad 0), .int x1] : List Value).toArray s 0 0 A) (F0 m 10 ls ([]))) (fun b2 b3 b4 b5 μ => ∀ (H1 : Heap) (locs : List Loc) (ls : Array Slot), va_P D vwCl (wW shM 18 cc ad μ ++ rs) H1 → va_D A (wW shM 18 cc ad μ ++ rs) → va_S A s.heap H1 locs → lv_has ls 8 [(0, .ref (ad 0)), (2, .int b2), (3, .int b3), (4, .int b4), (5, .int b5)] → W p l e (headSpec wsX6_findOrder ({ frames := 0, cells := 0, slots := 0, locals := 0 })).room s m ([.ref (ad 0), .int x1] : List Value).toArray below meth c H1 locs 0 0 (MQ below (va_Qv K (PW shM 18 D cc A ad rs) A) ([.ref (ad 0), .int x1] : List Value).toArray s 0 0 A) (F0 m 35 ls ([]))) (fun b2 b3 b5 b6 z0 μ => ∀ (H1 : Heap) (locs : List Loc) (ls : Array Slot), va_P D vwCl (wW shM 18 cc ad μ ++ rs) H1 → va_D A (wW shM 18 cc ad μ ++ rs) → va_S A s.heap H1 locs → lv_has ls 8 [(0, .ref (ad 0)), (2, .int b2), (3, .int b3), (5, .int b5), (6, .int b6)] → W p l e (headSpec wsX6_findOrder ({ frames := 0, cells := 0, slots := 0, locals := 0 })).room s m ([.ref (ad 0), .int x1] : List Value).toArray below meth c H1 locs 0 0 (MQ below (va_Qv K (PW shM 18 D cc A ad rs) A) ([.ref (ad 0), .int x1] : List Value).toArray s 0 0 A) (F0 m 84 ls ([.int z0]))) (fun b2 b3 b4 b5 b6 b7 μ => ∀ (H1 : Heap) (locs : List Loc) (ls : Array Slot), va_P D vwCl (wW shM 18 cc ad μ ++ rs) H1 → va_D A (wW shM 18 cc ad μ ++ rs) → va_S A s.heap H1 locs → lv_has ls 8 [(0, .ref (ad 0)), (2, .int b2), (3, .int b3), (4, .int b4), (5, .int b5), (6, .int b6), (7, .int b7)] → W p l e (headSpec wsX6_findOrder ({ frames := 0, cells := 0, slots := 0, locals := 0 })).room s m ([.ref (ad 0), .int x1] : List Value).toArray below meth c H1 locs 0 0 (MQ below (va_Qv K (PW shM 18 D cc A ad rs) A) ([.ref (ad 0), .int x1] : List Value).toArray s 0 0 A) (F0 m 89 ls ([]))) (fun b2 b3 b4 b5 b6 b7 μ => ∀ (H1 : Heap) (locs : List Loc) (ls : Array Slot), va_P D vwCl (wW shM 18 cc ad μ ++ rs) H1 → va_D A (wW shM 18 cc ad μ ++ rs) → va_S A s.heap H1 locs → lv_has ls 8 [(0, .ref (ad 0)), (2, .int b2), (3, .int b3), (4, .int b4), (5, .int b5), (6, .int b6), (7, .int b7)] → W p l e (headSpec wsX6_findOrder ({ frames := 0, cells := 0, slots := 0, locals := 0 })).room s m ([.ref (ad 0), .int x1] : List Value).toArray below meth c H1 locs 0 0 (MQ below (va_Qv K (PW shM 18 D cc A ad rs) A) ([.ref (ad 0), .int x1] : List Value).toArray s 0 0 A) (F0 m 104 ls ([]))) (fun b2 b3 b4 b5 b7 z0 z1 μ => ∀ (H1 : Heap) (locs : List Loc) (ls : Array Slot), va_P D vwCl (wW shM 18 cc ad μ ++ rs) H1 → va_D A (wW shM 18 cc ad μ ++ rs) → va_S A s.heap H1 locs → lv_has ls 8 [(0, .ref (ad 0)), (2, .int b2), (3, .int b3), (4, .int b4), (5, .int b5), (7, .int b7)] → W p l e (headSpec wsX6_findOrder ({ frames := 0, cells := 0, slots := 0, locals := 0 })).room s m ([.ref (ad 0), .int x1] : List Value).toArray below meth c H1 locs 0 0 (MQ below (va_Qv K (PW shM 18 D cc A ad rs) A) ([.ref (ad 0), .int x1] : List Value).toArray s 0 0 A) (F0 m 121 ls ([.int z0, .int z1]))) ?b10 ?b35 ?b84 ?b89 ?b104 ?b121)
  case main =>
      refine lv_iconst (v := 0) hx hb dX6_findOrder_0 (by decide) ?_
      refine lv_istore_n (lv' := [(2, .int 0), (0, .ref (ad 0)), (1, .int x1)]) hx hb dX6_findOrder_1 rfl hl (by decide) rfl (fun ls hl => ?_)
      refine lv_iload_n hx hb dX6_findOrder_2 rfl (lv_at hl 2 rfl) ?_
      refine lv_istore_n (lv' := [(3, .int x1), (2, .int 0), (0, .ref (ad 0)), (1, .int x1)]) hx hb dX6_findOrder_3 rfl hl (by decide) rfl (fun ls hl => ?_)
      refine lv_iconst (v := 1) hx hb dX6_findOrder_4 (by decide) ?_
      refine lv_istore (lv' := [(4, .int 1), (3, .int x1), (2, .int 0), (0, .ref (ad 0)), (1, .int x1)]) hx hb dX6_findOrder_5 hl (by decide) rfl (fun ls hl => ?_)
      refine lv_iconst (v := 2) hx hb dX6_findOrder_7 (by decide) ?_
      refine lv_istore (lv' := [(5, .int 2), (4, .int 1), (3, .int x1), (2, .int 0), (0, .ref (ad 0)), (1, .int x1)]) hx hb dX6_findOrder_8 hl (by decide) rfl (fun ls hl => ?_)
      exact h _ _ _ hP hD hS (lv_sub hl [4, 3, 2, 1, 0] rfl)
  case b10 =>
    intro b2 b3 b4 b5 μ h H locs ls hP hD hS hl
    refine lv_iload hx hb dX6_findOrder_10 (lv_at hl 4 rfl) ?_
    refine lv_aload_n hx hb dX6_findOrder_12 rfl (lv_at hl 0 rfl) ?_
    refine zw_get (C := RX6) (T := TX6) (M := 22) (v := .int (μ.1 0 18)) hx hb hts hi_X6 hown hK hP kM_0 rfl 18 (by decide) hw0 rfl dX6_findOrder_13 ?_
    refine lv_icmp_ge (tgt := 32) hx hb dX6_findOrder_16 (by decide) (fun c1 => ?_) (fun c1 => ?_)
    · have h := h.1 c1
      refine lv_iconst (v := 0) hx hb dX6_findOrder_32 (by decide) ?_
      refine lv_istore (lv' := [(5, .int 0), (0, .ref (ad 0)), (2, .int b2), (3, .int b3), (4, .int b4)]) hx hb dX6_findOrder_33 hl (by decide) rfl (fun ls hl => ?_)
      exact h _ _ _ hP hD hS (lv_sub hl [1, 2, 3, 4, 0] rfl)
    · have h := h.2 c1
      refine lv_iload hx hb dX6_findOrder_19 (lv_at hl 3 rfl) ?_
      refine lv_iload hx hb dX6_findOrder_21 (lv_at hl 4 rfl) ?_
      refine lv_imul hx hb dX6_findOrder_23 ?_
      refine lv_topi (fun y2 ey2 => ?_)
      have h := h y2 ey2
      refine lv_istore (lv' := [(4, .int y2), (0, .ref (ad 0)), (2, .int b2), (3, .int b3), (5, .int b5)]) hx hb dX6_findOrder_24 hl (by decide) rfl (fun ls hl => ?_)
      obtain ⟨y3, ey3⟩ : ∃ y : Int32, y = b5 + 1 := ⟨_, rfl⟩
      have h := h y3 ey3
      refine lv_iinc (v := y3) (lv' := [(5, .int y3), (4, .int y2), (0, .ref (ad 0)), (2, .int b2), (3, .int b3)]) hx hb dX6_findOrder_26 hl (k := 4) rfl (by rw [ey3]; rfl) (by decide) rfl (fun ls hl => ?_)
      refine lv_goto (tgt := 10) hx hb dX6_findOrder_29 (by decide) ?_
      exact h _ _ _ hP hD hS (lv_sub hl [2, 3, 4, 1, 0] rfl)
  case b35 =>
    intro b2 b3 b4 b5 μ h H locs ls hP hD hS hl
    refine lv_iload hx hb dX6_findOrder_35 (lv_at hl 4 rfl) ?_
    refine lv_aload_n hx hb dX6_findOrder_37 rfl (lv_at hl 0 rfl) ?_
    refine zw_get (C := RX6) (T := TX6) (M := 22) (v := .int (μ.1 0 18)) hx hb hts hi_X6 hown hK hP kM_0 rfl 18 (by decide) hw0 rfl dX6_findOrder_38 ?_
    refine lv_icmp_ge (tgt := 157) hx hb dX6_findOrder_41 (by decide) (fun c4 => ?_) (fun c4 => ?_)
    · have h := h.1 c4
      exact W.vret hx hb hr (fun t ht hW => ⟨⟨μ, rfl, h, PW.to hK hN hP hD t ht hW⟩, hS.F ht⟩) hS.2.2 dX6_findOrder_157
    · have h := h.2 c4
      refine lv_iload_n hx hb dX6_findOrder_44 rfl (lv_at hl 2 rfl) ?_
      refine lv_iload hx hb dX6_findOrder_45 (lv_at hl 3 rfl) ?_
      obtain ⟨hd5, h⟩ := h
      refine lv_idiv hx hb dX6_findOrder_47 hd5 ?_
      refine lv_topi (fun y6 ey6 => ?_)
      have h := h y6 ey6
      refine lv_istore (lv' := [(6, .int y6), (0, .ref (ad 0)), (2, .int b2), (3, .int b3), (4, .int b4), (5, .int b5)]) hx hb dX6_findOrder_48 hl (by decide) rfl (fun ls hl => ?_)
      refine lv_iload_n hx hb dX6_findOrder_50 rfl (lv_at hl 3 rfl) ?_
      refine lv_iload hx hb dX6_findOrder_51 (lv_at hl 4 rfl) ?_
      obtain ⟨hd7, h⟩ := h
      refine lv_irem hx hb dX6_findOrder_53 hd7 ?_
      refine lv_topi (fun y8 ey8 => ?_)
      have h := h y8 ey8
      refine lv_istore_n (lv' := [(3, .int y8), (6, .int y6), (0, .ref (ad 0)), (2, .int b2), (4, .int b4), (5, .int b5)]) hx hb dX6_findOrder_54 rfl hl (by decide) rfl (fun ls hl => ?_)
      refine lv_aload_n hx hb dX6_findOrder_55 rfl (lv_at hl 2 rfl) ?_
      refine zw_get (C := RX6) (T := TX6) (M := 22) (v := .int (μ.1 0 18)) hx hb hts hi_X6 hown hK hP kM_0 rfl 18 (by decide) hw0 rfl dX6_findOrder_56 ?_
      refine lv_iconst (v := 1) hx hb dX6_findOrder_59 (by decide) ?_
      refine lv_isub hx hb dX6_findOrder_60 ?_
      refine lv_iload hx hb dX6_findOrder_61 (lv_at hl 5 rfl) ?_
      refine lv_isub hx hb dX6_findOrder_63 ?_
      refine lv_iconst (v := 1) hx hb dX6_findOrder_64 (by decide) ?_
      refine lv_icmp_le (tgt := 83) hx hb dX6_findOrder_65 (by decide) (fun c9 => ?_) (fun c9 => ?_)
      · have h := h.1 c9
        refine lv_iconst (v := 1) hx hb dX6_findOrder_83 (by decide) ?_
        exact h _ _ _ hP hD hS (lv_sub hl [2, 3, 0, 5, 1] rfl)
      · have h := h.2 c9
        refine lv_iload hx hb dX6_findOrder_68 (lv_at hl 4 rfl) ?_
        refine lv_aload_n hx hb dX6_findOrder_70 rfl (lv_at hl 2 rfl) ?_
        refine zw_get (C := RX6) (T := TX6) (M := 22) (v := .int (μ.1 0 18)) hx hb hts hi_X6 hown hK hP kM_0 rfl 18 (by decide) hw0 rfl dX6_findOrder_71 ?_
        refine lv_iconst (v := 1) hx hb dX6_findOrder_74 (by decide) ?_
        refine lv_isub hx hb dX6_findOrder_75 ?_
        refine lv_iload hx hb dX6_findOrder_76 (lv_at hl 5 rfl) ?_
        refine lv_isub hx hb dX6_findOrder_78 ?_
        obtain ⟨hd10, h⟩ := h
        refine lv_idiv hx hb dX6_findOrder_79 hd10 ?_
        refine lv_goto (tgt := 84) hx hb dX6_findOrder_80 (by decide) ?_
        exact h _ _ _ hP hD hS (lv_sub hl [2, 3, 0, 5, 1] rfl)
  case b84 =>
    intro b2 b3 b5 b6 z0 μ h H locs ls hP hD hS hl
    refine lv_istore (lv' := [(4, .int z0), (0, .ref (ad 0)), (2, .int b2), (3, .int b3), (5, .int b5), (6, .int b6)]) hx hb dX6_findOrder_84 hl (by decide) rfl (fun ls hl => ?_)
    refine lv_iconst (v := 0) hx hb dX6_findOrder_86 (by decide) ?_
    refine lv_istore (lv' := [(7, .int 0), (4, .int z0), (0, .ref (ad 0)), (2, .int b2), (3, .int b3), (5, .int b5), (6, .int b6)]) hx hb dX6_findOrder_87 hl (by decide) rfl (fun ls hl => ?_)
    exact h _ _ _ hP hD hS (lv_sub hl [2, 3, 4, 1, 5, 6, 0] rfl)
  case b89 =>
    intro b2 b3 b4 b5 b6 b7 μ h H locs ls hP hD hS hl
    refine lv_iload_n hx hb dX6_findOrder_89 rfl (lv_at hl 1 rfl) ?_
    refine lv_iload hx hb dX6_findOrder_90 (lv_at hl 6 rfl) ?_
    refine lv_ishr hx hb dX6_findOrder_92 ?_
    refine lv_iconst (v := 1) hx hb dX6_findOrder_93 (by decide) ?_
    refine lv_iand hx hb dX6_findOrder_94 ?_
    refine lv_iconst (v := 1) hx hb dX6_findOrder_95 (by decide) ?_
    refine lv_icmp_eq (tgt := 104) hx hb dX6_findOrder_96 (by decide) (fun c11 => ?_) (fun c11 => ?_)
    · have h := h.1 c11
      exact h _ _ _ hP hD hS (lv_sub hl [0, 1, 2, 3, 4, 5, 6] rfl)
    · have h := h.2 c11
      refine lv_iload hx hb dX6_findOrder_99 (lv_at hl 5 rfl) ?_
      refine lv_if_le (tgt := 130) hx hb dX6_findOrder_101 (by decide) (fun c12 => ?_) (fun c12 => ?_)
      · have h := h.1 c12
        refine lv_iload_n hx hb dX6_findOrder_130 rfl (lv_at hl 1 rfl) ?_
        refine lv_iconst (v := 1) hx hb dX6_findOrder_131 (by decide) ?_
        refine lv_iload hx hb dX6_findOrder_132 (lv_at hl 6 rfl) ?_
        refine lv_ishl hx hb dX6_findOrder_134 ?_
        refine lv_ior hx hb dX6_findOrder_135 ?_
        refine lv_topi (fun y13 ey13 => ?_)
        have h := h y13 ey13
        refine lv_istore_n (lv' := [(2, .int y13), (0, .ref (ad 0)), (3, .int b3), (4, .int b4), (5, .int b5), (6, .int b6), (7, .int b7)]) hx hb dX6_findOrder_136 rfl hl (by decide) rfl (fun ls hl => ?_)
        refine lv_aload_n hx hb dX6_findOrder_137 rfl (lv_at hl 1 rfl) ?_
        refine zw_get (C := RX6) (T := TX6) (M := 22) (v := .ref (ad 15)) hx hb hts hi_X6 hown hK hP kM_0 rfl 19 (by decide) hw1 rfl dX6_findOrder_138 ?_
        refine lv_iload hx hb dX6_findOrder_141 (lv_at hl 4 rfl) ?_
        refine lv_aload_n hx hb dX6_findOrder_143 rfl (lv_at hl 1 rfl) ?_
        refine zw_get (C := RX6) (T := TX6) (M := 22) (v := .ref (ad 14)) hx hb hts hi_X6 hown hK hP kM_0 rfl 17 (by decide) hw2 rfl dX6_findOrder_144 ?_
        refine lv_iload hx hb dX6_findOrder_147 (lv_at hl 6 rfl) ?_
        obtain ⟨hi14, h⟩ := h
        refine zw_iald hx hb hK hP kM_14 hi14 dX6_findOrder_149 ?_
        obtain ⟨hi15, h⟩ := h
        refine zw_iast hx hb hK hP hD hS kM_15 hi15 dX6_findOrder_150 (fun μ16 H locs eμ16 hP hD hS => ?_)
        have h := h μ16 eμ16
        obtain ⟨y17, ey17⟩ : ∃ y : Int32, y = b5 + 1 := ⟨_, rfl⟩
        have h := h y17 ey17
        refine lv_iinc (v := y17) (lv' := [(5, .int y17), (2, .int y13), (0, .ref (ad 0)), (3, .int b3), (4, .int b4), (6, .int b6), (7, .int b7)]) hx hb dX6_findOrder_151 hl (k := 4) rfl (by rw [ey17]; rfl) (by decide) rfl (fun ls hl => ?_)
        refine lv_goto (tgt := 35) hx hb dX6_findOrder_154 (by decide) ?_
        exact h _ _ _ hP hD hS (lv_sub hl [2, 1, 3, 4, 0] rfl)
      · have h := h.2 c12
        exact h _ _ _ hP hD hS (lv_sub hl [0, 1, 2, 3, 4, 5, 6] rfl)
  case b104 =>
    intro b2 b3 b4 b5 b6 b7 μ h H locs ls hP hD hS hl
    refine lv_iload hx hb dX6_findOrder_104 (lv_at hl 5 rfl) ?_
    refine lv_iload_n hx hb dX6_findOrder_106 rfl (lv_at hl 1 rfl) ?_
    refine lv_iload hx hb dX6_findOrder_107 (lv_at hl 6 rfl) ?_
    refine lv_ishr hx hb dX6_findOrder_109 ?_
    refine lv_iconst (v := 1) hx hb dX6_findOrder_110 (by decide) ?_
    refine lv_iand hx hb dX6_findOrder_111 ?_
    refine lv_iconst (v := 1) hx hb dX6_findOrder_112 (by decide) ?_
    refine lv_icmp_ne (tgt := 120) hx hb dX6_findOrder_113 (by decide) (fun c18 => ?_) (fun c18 => ?_)
    · have h := h.1 c18
      refine lv_iconst (v := 1) hx hb dX6_findOrder_120 (by decide) ?_
      exact h _ _ _ hP hD hS (lv_sub hl [0, 1, 2, 3, 4, 6] rfl)
    · have h := h.2 c18
      refine lv_iconst (v := 0) hx hb dX6_findOrder_116 (by decide) ?_
      refine lv_goto (tgt := 121) hx hb dX6_findOrder_117 (by decide) ?_
      exact h _ _ _ hP hD hS (lv_sub hl [0, 1, 2, 3, 4, 6] rfl)
  case b121 =>
    intro b2 b3 b4 b5 b7 z0 z1 μ h H locs ls hP hD hS hl
    refine lv_isub hx hb dX6_findOrder_121 ?_
    refine lv_topi (fun y19 ey19 => ?_)
    have h := h y19 ey19
    refine lv_istore (lv' := [(6, .int y19), (0, .ref (ad 0)), (2, .int b2), (3, .int b3), (4, .int b4), (5, .int b5), (7, .int b7)]) hx hb dX6_findOrder_122 hl (by decide) rfl (fun ls hl => ?_)
    obtain ⟨y20, ey20⟩ : ∃ y : Int32, y = b7 + 1 := ⟨_, rfl⟩
    have h := h y20 ey20
    refine lv_iinc (v := y20) (lv' := [(7, .int y20), (6, .int y19), (0, .ref (ad 0)), (2, .int b2), (3, .int b3), (4, .int b4), (5, .int b5)]) hx hb dX6_findOrder_124 hl (k := 6) rfl (by rw [ey20]; rfl) (by decide) rfl (fun ls hl => ?_)
    refine lv_goto (tgt := 89) hx hb dX6_findOrder_127 (by decide) ?_
    exact h _ _ _ hP hD hS (lv_sub hl [2, 3, 4, 5, 6, 1, 0] rfl)
