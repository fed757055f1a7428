set_option maxHeartbeats 4000000 in
set_option maxRecDepth 100000 in
theorem c_X6_putsOrder (l : Launch) (D : va_G) (cc : Nat → ClassId) (A : Nat → Prop) (ad : Nat → Nat) (rs : va_W) (p1 : Nat) (hp1 : isI shM 18 p1 32) (μ : Mem) (K : Mem → Prop) (h : f_X6_putsOrder p1 μ K) : Met l yX6_putsOrder wsX6_putsOrder ({ frames := 2, cells := 0, slots := 0, locals := 45 }) (va_Pc [.ref (ad 0), .ref (ad p1)] (PW shM 18 D cc A ad rs μ)) (va_Qv K (PW shM 18 D cc A ad rs) A) 0 0 A := by
  refine Met.ofW (cc := cX6_putsOrder) (maxL := 3) (ret := none) (by decide) rfl ?_
  intro p e s m args below meth c s₁ BB hml hv
  obtain ⟨rfl, hP, hK, hD, hN⟩ := hv
  have hx := BB.exec
  have hb := BB.bytes
  have hr := BB.returns
  have hts := atoms_spec (ws := wsX6_putsOrder) BB.pre
  have hown : s.vm.findClass RX6 = some m.cls := findClass_of_methodNamed BB.named
  have hlocks := BB.notSynchronized
  have hi_X6 : ∀ w ∈ u_ws RX6 TX6 22, w ∈ wsX6_putsOrder := by decide +kernel
  have hw0 := hts (.fieldLink RX6 162 "FeatureClashesModel" "thoseMany" "I") (by decide +kernel)
  have hw1 := hts (.fieldLink RX6 53 "FeatureClashesModel" "order" "[I") (by decide +kernel)
  have hS : va_S A s.heap s.heap [] := va_S.rf
  have hl := lv_entry ([.ref (ad 0), .ref (ad p1)]) (n := 3) (Nat.le_of_ble_eq_true rfl)
  rw [lg_entry_eq]
  generalize (lg_sl ([.ref (ad 0), .ref (ad p1)]) ++ List.replicate (3 - (lg_sl ([.ref (ad 0), .ref (ad p1)])).length) Slot.unset).toArray = ls at hl ⊢
  have hl : lv_has ls 3 [(0, .ref (ad 0)), (1, .ref (ad p1))] := hl
  unfold f_X6_putsOrder at h
  refine (fun h => ?main) (h (fun b2 μ => ∀ (H1 : Heap) (locs : List Loc) (ls : Array Slot), va_P D vwCl (wW shM 18 cc ad μ ++ rs) H1 → va_D A (wW shM 18 cc ad μ ++ rs) → va_S A s.heap H1 locs → lv_has ls 3 [(0, .ref (ad 0)), (1, .ref (ad p1)), (2, .int b2)] → W p l e (headSpec wsX6_putsOrder ({ frames := 2, cells := 0, slots := 0, locals := 45 })).room s m ([.ref (ad 0), .ref (ad p1)] : List Value).toArray below meth c H1 locs 0 0 (MQ below (va_Qv K (PW shM 18 D cc A ad rs) A) ([.ref (ad 0), .ref (ad p1)] : List Value).toArray s 0 0 A) (F0 m 7 ls ([]))) ?b7)
  case main =>
      refine lv_aload_n hx hb dX6_putsOrder_0 rfl (lv_at hl 0 rfl) ?_
      refine lv_aload_n hx hb dX6_putsOrder_1 rfl (lv_at hl 1 rfl) ?_
      refine zc_v (zc_runV (As := [.ref (ad p1)]) (rest := []) ⟨hx, hb, hml, hown, hts⟩ (c_X6_base l D cc A ad rs p1 hp1 μ _ h) (cwV 1 hts gX6_putsOrder_X6_base rfl rfl rfl (by decide +kernel) ⟨Nat.le_of_ble_eq_true rfl, Nat.le_of_ble_eq_true rfl⟩) kM_0 rfl hK hN hP hD rfl hl.1 rfl (Nat.le_of_ble_eq_true rfl) dX6_putsOrder_2 ⟨Nat.zero_le _, Nat.zero_le _⟩) hS (fun μ2 H locs h hP hD hS => ?_)
      refine lv_iconst (v := 0) hx hb dX6_putsOrder_5 (by decide) ?_
      refine lv_istore_n (lv' := [(2, .int 0), (0, .ref (ad 0)), (1, .ref (ad p1))]) hx hb dX6_putsOrder_6 rfl hl (by decide) rfl (fun ls hl => ?_)
      exact h _ _ _ hP hD hS (lv_sub hl [1, 2, 0] rfl)
  case b7 =>
    intro b2 μ h H locs ls hP hD hS hl
    refine lv_iload_n hx hb dX6_putsOrder_7 rfl (lv_at hl 2 rfl) ?_
    refine lv_aload_n hx hb dX6_putsOrder_8 rfl (lv_at hl 0 rfl) ?_
    refine zw_get (C := RX6) (T := TX6) (M := 22) (v := .int (μ.1 0 18)) hx hb hts hi_X6 hown hK hP kM_0 rfl 18 (by decide) hw0 rfl dX6_putsOrder_9 ?_
    refine lv_icmp_ge (tgt := 32) hx hb dX6_putsOrder_12 (by decide) (fun c3 => ?_) (fun c3 => ?_)
    · have h := h.1 c3
      exact W.vret hx hb hr (fun t ht hW => ⟨⟨μ, rfl, h, PW.to hK hN hP hD t ht hW⟩, hS.F ht⟩) hS.2.2 dX6_putsOrder_32
    · have h := h.2 c3
      refine lv_aload_n hx hb dX6_putsOrder_15 rfl (lv_at hl 0 rfl) ?_
      refine lv_aload_n hx hb dX6_putsOrder_16 rfl (lv_at hl 1 rfl) ?_
      refine lv_aload_n hx hb dX6_putsOrder_17 rfl (lv_at hl 0 rfl) ?_
      refine zw_get (C := RX6) (T := TX6) (M := 22) (v := .ref (ad 15)) hx hb hts hi_X6 hown hK hP kM_0 rfl 19 (by decide) hw1 rfl dX6_putsOrder_18 ?_
      refine lv_iload_n hx hb dX6_putsOrder_21 rfl (lv_at hl 2 rfl) ?_
      obtain ⟨hi4, h⟩ := h
      refine zw_iald hx hb hK hP kM_15 hi4 dX6_putsOrder_22 ?_
      refine zc_v (zc_runV (As := [.ref (ad p1), .int (μ.1 15 (b2 : Int32).toNatClampNeg)]) (rest := []) ⟨hx, hb, hml, hown, hts⟩ (c_X6_putsOn l D cc A ad rs p1 hp1 (μ.1 15 (b2 : Int32).toNatClampNeg) μ _ h) (cwV 2 hts gX6_putsOrder_X6_putsOn rfl rfl rfl (by decide +kernel) ⟨Nat.le_of_ble_eq_true rfl, Nat.le_of_ble_eq_true rfl⟩) kM_0 rfl hK hN hP hD rfl hl.1 rfl (Nat.le_of_ble_eq_true rfl) dX6_putsOrder_23 ⟨Nat.zero_le _, Nat.zero_le _⟩) hS (fun μ6 H locs h hP hD hS => ?_)
      obtain ⟨y7, ey7⟩ : ∃ y : Int32, y = b2 + 1 := ⟨_, rfl⟩
      have h := h y7 ey7
      refine lv_iinc (v := y7) (lv' := [(2, .int y7), (0, .ref (ad 0)), (1, .ref (ad p1))]) hx hb dX6_putsOrder_26 hl (k := 2) rfl (by rw [ey7]; rfl) (by decide) rfl (fun ls hl => ?_)
      refine lv_goto (tgt := 7) hx hb dX6_putsOrder_29 (by decide) ?_
      exact h _ _ _ hP hD hS (lv_sub hl [1, 2, 0] rfl)
set_option maxHeartbeats 4000000 in
set_option maxRecDepth 100000 in
theorem c_X6_results (l : Launch) (D : va_G) (cc : Nat → ClassId) (A : Nat → Prop) (ad : Nat → Nat) (rs : va_W)  (μ : Mem) (K : Int32 → Mem → Prop) (h : f_X6_results  μ K) : Met l yX6_results wsX6_results ({ frames := 3, cells := 0, slots := 0, locals := 67 }) (va_Pc [.ref (ad 0)] (PW shM 18 D cc A ad rs μ)) (va_Qi K (PW shM 18 D cc A ad rs) A) 0 0 A := by
  refine Met.ofW (cc := cX6_results) (maxL := 7) (ret := (some .int)) (by decide) rfl ?_
  intro p e s m args below meth c s₁ BB hml hv
  obtain ⟨rfl, hP, hK, hD, hN⟩ := hv
  have hx := BB.exec
  have hb := BB.bytes
  have hr := BB.returns
  have hts := atoms_spec (ws := wsX6_results) BB.pre
  have hown : s.vm.findClass RX6 = some m.cls := findClass_of_methodNamed BB.named
  have hlocks := BB.notSynchronized
  have hi_X6 : ∀ w ∈ u_ws RX6 TX6 22, w ∈ wsX6_results := by decide +kernel
  have hw0 := hts (.fieldLink RX6 29 "FeatureClashesModel" "one" "[I") (by decide +kernel)
  have hw1 := hts (.fieldLink RX6 32 "FeatureClashesModel" "other" "[I") (by decide +kernel)
  have hw2 := hts (.fieldLink RX6 56 "FeatureClashesModel" "machines" "[I") (by decide +kernel)
  have hS : va_S A s.heap s.heap [] := va_S.rf
  have hl := lv_entry ([.ref (ad 0)]) (n := 7) (Nat.le_of_ble_eq_true rfl)
  rw [lg_entry_eq]
  generalize (lg_sl ([.ref (ad 0)]) ++ List.replicate (7 - (lg_sl ([.ref (ad 0)])).length) Slot.unset).toArray = ls at hl ⊢
  have hl : lv_has ls 7 [(0, .ref (ad 0))] := hl
  unfold f_X6_results at h
  refine (fun h => ?main) (h (fun b1 b2 b3 μ => ∀ (H1 : Heap) (locs : List Loc) (ls : Array Slot), va_P D vwCl (wW shM 18 cc ad μ ++ rs) H1 → va_D A (wW shM 18 cc ad μ ++ rs) → va_S A s.heap H1 locs → lv_has ls 7 [(0, .ref (ad 0)), (1, .int b1), (2, .int b2), (3, .int b3)] → W p l e (headSpec wsX6_results ({ frames := 3, cells := 0, slots := 0, locals := 67 })).room s m ([.ref (ad 0)] : List Value).toArray below meth c H1 locs 0 0 (MQ below (va_Qi K (PW shM 18 D cc A ad rs) A) ([.ref (ad 0)] : List Value).toArray s 0 0 A) (F0 m 9 ls ([]))) (fun b1 b2 b3 b4 b5 μ => ∀ (H1 : Heap) (locs : List Loc) (ls : Array Slot), va_P D vwCl (wW shM 18 cc ad μ ++ rs) H1 → va_D A (wW shM 18 cc ad μ ++ rs) → va_S A s.heap H1 locs → lv_has ls 7 [(0, .ref (ad 0)), (1, .int b1), (2, .int b2), (3, .int b3), (4, .int b4), (5, .int b5)] → W p l e (headSpec wsX6_results ({ frames := 3, cells := 0, slots := 0, locals := 67 })).room s m ([.ref (ad 0)] : List Value).toArray below meth c H1 locs 0 0 (MQ below (va_Qi K (PW shM 18 D cc A ad rs) A) ([.ref (ad 0)] : List Value).toArray s 0 0 A) (F0 m 33 ls ([]))) (fun b1 b2 b3 b4 μ => ∀ (H1 : Heap) (locs : List Loc) (ls : Array Slot), va_P D vwCl (wW shM 18 cc ad μ ++ rs) H1 → va_D A (wW shM 18 cc ad μ ++ rs) → va_S A s.heap H1 locs → lv_has ls 7 [(0, .ref (ad 0)), (1, .int b1), (2, .int b2), (3, .int b3), (4, .int b4)] → W p l e (headSpec wsX6_results ({ frames := 3, cells := 0, slots := 0, locals := 67 })).room s m ([.ref (ad 0)] : List Value).toArray below meth c H1 locs 0 0 (MQ below (va_Qi K (PW shM 18 D cc A ad rs) A) ([.ref (ad 0)] : List Value).toArray s 0 0 A) (F0 m 100 ls ([]))) (fun b1 b2 b3 b5 b6 μ => ∀ (H1 : Heap) (locs : List Loc) (ls : Array Slot), va_P D vwCl (wW shM 18 cc ad μ ++ rs) H1 → va_D A (wW shM 18 cc ad μ ++ rs) → va_S A s.heap H1 locs → lv_has ls 7 [(0, .ref (ad 0)), (1, .int b1), (2, .int b2), (3, .int b3), (5, .int b5), (6, .int b6)] → W p l e (headSpec wsX6_results ({ frames := 3, cells := 0, slots := 0, locals := 67 })).room s m ([.ref (ad 0)] : List Value).toArray below meth c H1 locs 0 0 (MQ below (va_Qi K (PW shM 18 D cc A ad rs) A) ([.ref (ad 0)] : List Value).toArray s 0 0 A) (F0 m 47 ls ([]))) (fun b1 b2 b3 μ => ∀ (H1 : Heap) (locs : List Loc) (ls : Array Slot), va_P D vwCl (wW shM 18 cc ad μ ++ rs) H1 → va_D A (wW shM 18 cc ad μ ++ rs) → va_S A s.heap H1 locs → lv_has ls 7 [(0, .ref (ad 0)), (1, .int b1), (2, .int b2), (3, .int b3)] → W p l e (headSpec wsX6_results ({ frames := 3, cells := 0, slots := 0, locals := 67 })).room s m ([.ref (ad 0)] : List Value).toArray below meth c H1 locs 0 0 (MQ below (va_Qi K (PW shM 18 D cc A ad rs) A) ([.ref (ad 0)] : List Value).toArray s 0 0 A) (F0 m 143 ls ([]))) (fun b1 b2 b3 b5 μ => ∀ (H1 : Heap) (locs : List Loc) (ls : Array Slot), va_P D vwCl (wW shM 18 cc ad μ ++ rs) H1 → va_D A (wW shM 18 cc ad μ ++ rs) → va_S A s.heap H1 locs → lv_has ls 7 [(0, .ref (ad 0)), (1, .int b1), (2, .int b2), (3, .int b3), (5, .int b5)] → W p l e (headSpec wsX6_results ({ frames := 3, cells := 0, slots := 0, locals := 67 })).room s m ([.ref (ad 0)] : List Value).toArray below meth c H1 locs 0 0 (MQ below (va_Qi K (PW shM 18 D cc A ad rs) A) ([.ref (ad 0)] : List Value).toArray s 0 0 A) (F0 m 108 ls ([]))) (fun b1 b2 b3 b5 z0 μ => ∀ (H1 : Heap) (locs : List Loc) (ls : Array Slot), va_P D vwCl (wW shM 18 cc ad μ ++ rs) H1 → va_D A (wW shM 18 cc ad μ ++ rs) → va_S A s.heap H1 locs → lv_has ls 7 [(0, .ref (ad 0)), (1, .int b1), (2, .int b2), (3, .int b3), (5, .int b5)] → W p l e (headSpec wsX6_results ({ frames := 3, cells := 0, slots := 0, locals := 67 })).room s m ([.ref (ad 0)] : List Value).toArray below meth c H1 locs 0 0 (MQ below (va_Qi K (PW shM 18 D cc A ad rs) A) ([.ref (ad 0)] : List Value).toArray s 0 0 A) (F0 m 92 ls ([.int z0]))) ?b9 ?b33 ?b100 ?b47 ?b143 ?b108 ?b92)
  case main =>
      refine lv_aload_n hx hb dX6_results_0 rfl (lv_at hl 0 rfl) ?_
      refine zc_i (zc_runV (As := []) (rest := []) ⟨hx, hb, hml, hown, hts⟩ (c_X6_findThose l D cc A ad rs  μ _ h) (cwV 0 hts gX6_results_X6_findThose rfl rfl rfl (by decide +kernel) ⟨Nat.le_of_ble_eq_true rfl, Nat.le_of_ble_eq_true rfl⟩) kM_0 rfl hK hN hP hD rfl hl.1 rfl (Nat.le_of_ble_eq_true rfl) dX6_results_1 ⟨Nat.zero_le _, Nat.zero_le _⟩) hS (fun r1 μ2 H locs h hP hD hS => ?_)
      refine lv_istore_n (lv' := [(1, .int r1), (0, .ref (ad 0))]) hx hb dX6_results_4 rfl hl (by decide) rfl (fun ls hl => ?_)
      refine lv_iconst (v := 0) hx hb dX6_results_5 (by decide) ?_
      refine lv_istore_n (lv' := [(2, .int 0), (1, .int r1), (0, .ref (ad 0))]) hx hb dX6_results_6 rfl hl (by decide) rfl (fun ls hl => ?_)
      refine lv_iconst (v := 0) hx hb dX6_results_7 (by decide) ?_
      refine lv_istore_n (lv' := [(3, .int 0), (2, .int 0), (1, .int r1), (0, .ref (ad 0))]) hx hb dX6_results_8 rfl hl (by decide) rfl (fun ls hl => ?_)
      exact h _ _ _ hP hD hS (lv_sub hl [3, 2, 1, 0] rfl)
  case b9 =>
    intro b1 b2 b3 μ h H locs ls hP hD hS hl
    refine lv_iload_n hx hb dX6_results_9 rfl (lv_at hl 3 rfl) ?_
    refine lv_iload_n hx hb dX6_results_10 rfl (lv_at hl 1 rfl) ?_
    refine lv_icmp_ge (tgt := 149) hx hb dX6_results_11 (by decide) (fun c3 => ?_) (fun c3 => ?_)
    · have h := h.1 c3
      refine lv_iload_n hx hb dX6_results_149 rfl (lv_at hl 2 rfl) ?_
      exact W.iret (v := b2) hx hb hr (fun t ht hW => ⟨⟨b2, μ, rfl, h, PW.to hK hN hP hD t ht hW⟩, hS.F ht⟩) hS.2.2 dX6_results_150
    · have h := h.2 c3
      refine lv_aload_n hx hb dX6_results_14 rfl (lv_at hl 0 rfl) ?_
      refine lv_iload_n hx hb dX6_results_15 rfl (lv_at hl 3 rfl) ?_
      refine zc_v (zc_runV (As := [.int b3]) (rest := []) ⟨hx, hb, hml, hown, hts⟩ (c_X6_findOrder l D cc A ad rs b3 μ _ h) (cwV 1 hts gX6_results_X6_findOrder rfl rfl rfl (by decide +kernel) ⟨Nat.le_of_ble_eq_true rfl, Nat.le_of_ble_eq_true rfl⟩) kM_0 rfl hK hN hP hD rfl hl.1 rfl (Nat.le_of_ble_eq_true rfl) dX6_results_16 ⟨Nat.zero_le _, Nat.zero_le _⟩) hS (fun μ5 H locs h hP hD hS => ?_)
      refine lv_aload_n hx hb dX6_results_19 rfl (lv_at hl 0 rfl) ?_
      refine lv_aload_n hx hb dX6_results_20 rfl (lv_at hl 0 rfl) ?_
      refine zw_get (C := RX6) (T := TX6) (M := 22) (v := .ref (ad 7)) hx hb hts hi_X6 hown hK hP kM_0 rfl 10 (by decide) hw0 rfl dX6_results_21 ?_
      refine zc_v (zc_runV (As := [.ref (ad 7)]) (rest := []) ⟨hx, hb, hml, hown, hts⟩ (c_X6_putsOrder l D cc A ad rs 7 kM_7 μ5 _ h) (cwV 1 hts gX6_results_X6_putsOrder rfl rfl rfl (by decide +kernel) ⟨Nat.le_of_ble_eq_true rfl, Nat.le_of_ble_eq_true rfl⟩) kM_0 rfl hK hN hP hD rfl hl.1 rfl (Nat.le_of_ble_eq_true rfl) dX6_results_24 ⟨Nat.zero_le _, Nat.zero_le _⟩) hS (fun μ7 H locs h hP hD hS => ?_)
      refine lv_iconst (v := 1) hx hb dX6_results_27 (by decide) ?_
      refine lv_istore (lv' := [(4, .int 1), (0, .ref (ad 0)), (1, .int b1), (2, .int b2), (3, .int b3)]) hx hb dX6_results_28 hl (by decide) rfl (fun ls hl => ?_)
      refine lv_iconst (v := 0) hx hb dX6_results_30 (by decide) ?_
      refine lv_istore (lv' := [(5, .int 0), (4, .int 1), (0, .ref (ad 0)), (1, .int b1), (2, .int b2), (3, .int b3)]) hx hb dX6_results_31 hl (by decide) rfl (fun ls hl => ?_)
      exact h _ _ _ hP hD hS (lv_sub hl [2, 3, 4, 5, 1, 0] rfl)
  case b33 =>
    intro b1 b2 b3 b4 b5 μ h H locs ls hP hD hS hl
    refine lv_iload hx hb dX6_results_33 (lv_at hl 5 rfl) ?_
    refine lv_iload_n hx hb dX6_results_35 rfl (lv_at hl 2 rfl) ?_
    refine lv_icmp_ge (tgt := 100) hx hb dX6_results_36 (by decide) (fun c8 => ?_) (fun c8 => ?_)
    · have h := h.1 c8
      exact h _ _ _ hP hD hS (lv_sub hl [0, 1, 2, 3, 4] rfl)
    · have h := h.2 c8
      refine lv_iload hx hb dX6_results_39 (lv_at hl 4 rfl) ?_
      refine lv_if_eq (tgt := 100) hx hb dX6_results_41 (by decide) (fun c9 => ?_) (fun c9 => ?_)
      · have h := h.1 c9
        exact h _ _ _ hP hD hS (lv_sub hl [0, 1, 2, 3, 4] rfl)
      · have h := h.2 c9
        refine lv_iconst (v := 0) hx hb dX6_results_44 (by decide) ?_
        refine lv_istore (lv' := [(6, .int 0), (0, .ref (ad 0)), (1, .int b1), (2, .int b2), (3, .int b3), (4, .int b4), (5, .int b5)]) hx hb dX6_results_45 hl (by decide) rfl (fun ls hl => ?_)
        exact h _ _ _ hP hD hS (lv_sub hl [1, 2, 3, 4, 6, 0] rfl)
  case b100 =>
    intro b1 b2 b3 b4 μ h H locs ls hP hD hS hl
    refine lv_iload hx hb dX6_results_100 (lv_at hl 4 rfl) ?_
    refine lv_if_eq (tgt := 143) hx hb dX6_results_102 (by decide) (fun c10 => ?_) (fun c10 => ?_)
    · have h := h.1 c10
      exact h _ _ _ hP hD hS (lv_sub hl [0, 1, 2, 3] rfl)
    · have h := h.2 c10
      refine lv_iconst (v := 0) hx hb dX6_results_105 (by decide) ?_
      refine lv_istore (lv' := [(5, .int 0), (0, .ref (ad 0)), (1, .int b1), (2, .int b2), (3, .int b3), (4, .int b4)]) hx hb dX6_results_106 hl (by decide) rfl (fun ls hl => ?_)
      exact h _ _ _ hP hD hS (lv_sub hl [1, 2, 3, 4, 0] rfl)
  case b47 =>
    intro b1 b2 b3 b5 b6 μ h H locs ls hP hD hS hl
    refine lv_iload hx hb dX6_results_47 (lv_at hl 5 rfl) ?_
    refine lv_bipush (v := 32) hx hb dX6_results_49 (by decide) ?_
    refine lv_icmp_ge (tgt := 80) hx hb dX6_results_51 (by decide) (fun c11 => ?_) (fun c11 => ?_)
    · have h := h.1 c11
      refine lv_aload_n hx hb dX6_results_80 rfl (lv_at hl 0 rfl) ?_
      refine zc_i (zc_runV (As := []) (rest := []) ⟨hx, hb, hml, hown, hts⟩ (c_X6_findApart l D cc A ad rs  μ _ h) (cwV 0 hts gX6_results_X6_findApart rfl rfl rfl (by decide +kernel) ⟨Nat.le_of_ble_eq_true rfl, Nat.le_of_ble_eq_true rfl⟩) kM_0 rfl hK hN hP hD rfl hl.1 rfl (Nat.le_of_ble_eq_true rfl) dX6_results_81 ⟨Nat.zero_le _, Nat.zero_le _⟩) hS (fun r12 μ13 H locs h hP hD hS => ?_)
      refine lv_if_le (tgt := 91) hx hb dX6_results_84 (by decide) (fun c14 => ?_) (fun c14 => ?_)
      · have h := h.1 c14
        refine lv_iconst (v := 0) hx hb dX6_results_91 (by decide) ?_
        exact h _ _ _ hP hD hS (lv_sub hl [0, 1, 2, 3, 4] rfl)
      · have h := h.2 c14
        refine lv_iconst (v := 1) hx hb dX6_results_87 (by decide) ?_
        refine lv_goto (tgt := 92) hx hb dX6_results_88 (by decide) ?_
        exact h _ _ _ hP hD hS (lv_sub hl [0, 1, 2, 3, 4] rfl)
    · have h := h.2 c11
      refine lv_aload_n hx hb dX6_results_54 rfl (lv_at hl 0 rfl) ?_
      refine zw_get (C := RX6) (T := TX6) (M := 22) (v := .ref (ad 8)) hx hb hts hi_X6 hown hK hP kM_0 rfl 11 (by decide) hw1 rfl dX6_results_55 ?_
      refine lv_iload hx hb dX6_results_58 (lv_at hl 5 rfl) ?_
      refine lv_aload_n hx hb dX6_results_60 rfl (lv_at hl 0 rfl) ?_
      refine zw_get (C := RX6) (T := TX6) (M := 22) (v := .ref (ad 16)) hx hb hts hi_X6 hown hK hP kM_0 rfl 20 (by decide) hw2 rfl dX6_results_61 ?_
      refine lv_bipush (v := 32) hx hb dX6_results_64 (by decide) ?_
      refine lv_iload hx hb dX6_results_66 (lv_at hl 4 rfl) ?_
      refine lv_imul hx hb dX6_results_68 ?_
      refine lv_iload hx hb dX6_results_69 (lv_at hl 5 rfl) ?_
      refine lv_iadd hx hb dX6_results_71 ?_
      obtain ⟨hi15, h⟩ := h
      refine zw_iald hx hb hK hP kM_16 hi15 dX6_results_72 ?_
      obtain ⟨hi16, h⟩ := h
      refine zw_iast hx hb hK hP hD hS kM_8 hi16 dX6_results_73 (fun μ17 H locs eμ17 hP hD hS => ?_)
      have h := h μ17 eμ17
      obtain ⟨y18, ey18⟩ : ∃ y : Int32, y = b6 + 1 := ⟨_, rfl⟩
      have h := h y18 ey18
      refine lv_iinc (v := y18) (lv' := [(6, .int y18), (0, .ref (ad 0)), (1, .int b1), (2, .int b2), (3, .int b3), (5, .int b5)]) hx hb dX6_results_74 hl (k := 5) rfl (by rw [ey18]; rfl) (by decide) rfl (fun ls hl => ?_)
      refine lv_goto (tgt := 47) hx hb dX6_results_77 (by decide) ?_
      exact h _ _ _ hP hD hS (lv_sub hl [1, 2, 3, 4, 5, 0] rfl)
  case b143 =>
    intro b1 b2 b3 μ h H locs ls hP hD hS hl
    obtain ⟨y19, ey19⟩ : ∃ y : Int32, y = b3 + 1 := ⟨_, rfl⟩
    have h := h y19 ey19
    refine lv_iinc (v := y19) (lv' := [(3, .int y19), (0, .ref (ad 0)), (1, .int b1), (2, .int b2)]) hx hb dX6_results_143 hl (k := 3) rfl (by rw [ey19]; rfl) (by decide) rfl (fun ls hl => ?_)
    refine lv_goto (tgt := 9) hx hb dX6_results_146 (by decide) ?_
    exact h _ _ _ hP hD hS (lv_sub hl [1, 2, 3, 0] rfl)
  case b108 =>
    intro b1 b2 b3 b5 μ h H locs ls hP hD hS hl
    refine lv_iload hx hb dX6_results_108 (lv_at hl 4 rfl) ?_
    refine lv_bipush (v := 32) hx hb dX6_results_110 (by decide) ?_
    refine lv_icmp_ge (tgt := 140) hx hb dX6_results_112 (by decide) (fun c20 => ?_) (fun c20 => ?_)
    · have h := h.1 c20
      obtain ⟨y21, ey21⟩ : ∃ y : Int32, y = b2 + 1 := ⟨_, rfl⟩
      have h := h y21 ey21
      refine lv_iinc (v := y21) (lv' := [(2, .int y21), (0, .ref (ad 0)), (1, .int b1), (3, .int b3), (5, .int b5)]) hx hb dX6_results_140 hl (k := 2) rfl (by rw [ey21]; rfl) (by decide) rfl (fun ls hl => ?_)
      exact h _ _ _ hP hD hS (lv_sub hl [1, 2, 0, 3] rfl)
    · have h := h.2 c20
      refine lv_aload_n hx hb dX6_results_115 rfl (lv_at hl 0 rfl) ?_
      refine zw_get (C := RX6) (T := TX6) (M := 22) (v := .ref (ad 16)) hx hb hts hi_X6 hown hK hP kM_0 rfl 20 (by decide) hw2 rfl dX6_results_116 ?_
      refine lv_bipush (v := 32) hx hb dX6_results_119 (by decide) ?_
      refine lv_iload_n hx hb dX6_results_121 rfl (lv_at hl 2 rfl) ?_
      refine lv_imul hx hb dX6_results_122 ?_
      refine lv_iload hx hb dX6_results_123 (lv_at hl 4 rfl) ?_
      refine lv_iadd hx hb dX6_results_125 ?_
      refine lv_aload_n hx hb dX6_results_126 rfl (lv_at hl 0 rfl) ?_
      refine zw_get (C := RX6) (T := TX6) (M := 22) (v := .ref (ad 7)) hx hb hts hi_X6 hown hK hP kM_0 rfl 10 (by decide) hw0 rfl dX6_results_127 ?_
      refine lv_iload hx hb dX6_results_130 (lv_at hl 4 rfl) ?_
      obtain ⟨hi22, h⟩ := h
      refine zw_iald hx hb hK hP kM_7 hi22 dX6_results_132 ?_
      obtain ⟨hi23, h⟩ := h
      refine zw_iast hx hb hK hP hD hS kM_16 hi23 dX6_results_133 (fun μ24 H locs eμ24 hP hD hS => ?_)
      have h := h μ24 eμ24
      obtain ⟨y25, ey25⟩ : ∃ y : Int32, y = b5 + 1 := ⟨_, rfl⟩
      have h := h y25 ey25
      refine lv_iinc (v := y25) (lv' := [(5, .int y25), (0, .ref (ad 0)), (1, .int b1), (2, .int b2), (3, .int b3)]) hx hb dX6_results_134 hl (k := 4) rfl (by rw [ey25]; rfl) (by decide) rfl (fun ls hl => ?_)
      refine lv_goto (tgt := 108) hx hb dX6_results_137 (by decide) ?_
      exact h _ _ _ hP hD hS (lv_sub hl [1, 2, 3, 4, 0] rfl)
  case b92 =>
    intro b1 b2 b3 b5 z0 μ h H locs ls hP hD hS hl
    refine lv_istore (lv' := [(4, .int z0), (0, .ref (ad 0)), (1, .int b1), (2, .int b2), (3, .int b3), (5, .int b5)]) hx hb dX6_results_92 hl (by decide) rfl (fun ls hl => ?_)
    obtain ⟨y26, ey26⟩ : ∃ y : Int32, y = b5 + 1 := ⟨_, rfl⟩
    have h := h y26 ey26
    refine lv_iinc (v := y26) (lv' := [(5, .int y26), (4, .int z0), (0, .ref (ad 0)), (1, .int b1), (2, .int b2), (3, .int b3)]) hx hb dX6_results_94 hl (k := 5) rfl (by rw [ey26]; rfl) (by decide) rfl (fun ls hl => ?_)
    refine lv_goto (tgt := 33) hx hb dX6_results_97 (by decide) ?_
    exact h _ _ _ hP hD hS (lv_sub hl [2, 3, 4, 5, 1, 0] rfl)
set_option maxHeartbeats 4000000 in
set_option maxRecDepth 100000 in
theorem c_X6_reached (l : Launch) (D : va_G) (cc : Nat → ClassId) (A : Nat → Prop) (ad : Nat → Nat) (rs : va_W) (p1 : Nat) (hp1 : isI shM 18 p1 32) (μ : Mem) (K : Int32 → Mem → Prop) (h : f_X6_reached p1 μ K) : Met l yX6_reached wsX6_reached ({ frames := 0, cells := 0, slots := 0, locals := 0 }) (va_Pc [.ref (ad 0), .ref (ad p1)] (PW shM 18 D cc A ad rs μ)) (va_Qi K (PW shM 18 D cc A ad rs) A) 0 0 A := by
  refine Met.ofW (cc := cX6_reached) (maxL := 5) (ret := (some .int)) (by decide) rfl ?_
  intro p e s m args below meth c s₁ BB hml hv
  obtain ⟨rfl, hP, hK, hD, hN⟩ := hv
  have hx := BB.exec
  have hb := BB.bytes
  have hr := BB.returns
  have hts := atoms_spec (ws := wsX6_reached) BB.pre
  have hown : s.vm.findClass RX6 = some m.cls := findClass_of_methodNamed BB.named
  have hlocks := BB.notSynchronized
  have hS : va_S A s.heap s.heap [] := va_S.rf
  have hl := lv_entry ([.ref (ad 0), .ref (ad p1)]) (n := 5) (Nat.le_of_ble_eq_true rfl)
  rw [lg_entry_eq]
  generalize (lg_sl ([.ref (ad 0), .ref (ad p1)]) ++ List.replicate (5 - (lg_sl ([.ref (ad 0), .ref (ad p1)])).length) Slot.unset).toArray = ls at hl ⊢
  have hl : lv_has ls 5 [(0, .ref (ad 0)), (1, .ref (ad p1))] := hl
  unfold f_X6_reached at h
  refine (fun h => ?main) (h (fun b2 b3 μ => ∀ (H1 : Heap) (locs : List Loc) (ls : Array Slot), va_P D vwCl (wW shM 18 cc ad μ ++ rs) H1 → va_D A (wW shM 18 cc ad μ ++ rs) → va_S A s.heap H1 locs → lv_has ls 5 [(1, .ref (ad p1)), (2, .int b2), (3, .int b3)] → W p l e (headSpec wsX6_reached ({ frames := 0, cells := 0, slots := 0, locals := 0 })).room s m ([.ref (ad 0), .ref (ad p1)] : List Value).toArray below meth c H1 locs 0 0 (MQ below (va_Qi K (PW shM 18 D cc A ad rs) A) ([.ref (ad 0), .ref (ad p1)] : List Value).toArray s 0 0 A) (F0 m 4 ls ([]))) (fun b2 b3 b4 μ => ∀ (H1 : Heap) (locs : List Loc) (ls : Array Slot), va_P D vwCl (wW shM 18 cc ad μ ++ rs) H1 → va_D A (wW shM 18 cc ad μ ++ rs) → va_S A s.heap H1 locs → lv_has ls 5 [(1, .ref (ad p1)), (2, .int b2), (3, .int b3), (4, .int b4)] → W p l e (headSpec wsX6_reached ({ frames := 0, cells := 0, slots := 0, locals := 0 })).room s m ([.ref (ad 0), .ref (ad p1)] : List Value).toArray below meth c H1 locs 0 0 (MQ below (va_Qi K (PW shM 18 D cc A ad rs) A) ([.ref (ad 0), .ref (ad p1)] : List Value).toArray s 0 0 A) (F0 m 13 ls ([]))) (fun b3 b4 z0 μ => ∀ (H1 : Heap) (locs : List Loc) (ls : Array Slot), va_P D vwCl (wW shM 18 cc ad μ ++ rs) H1 → va_D A (wW shM 18 cc ad μ ++ rs) → va_S A s.heap H1 locs → lv_has ls 5 [(1, .ref (ad p1)), (3, .int b3), (4, .int b4)] → W p l e (headSpec wsX6_reached ({ frames := 0, cells := 0, slots := 0, locals := 0 })).room s m ([.ref (ad 0), .ref (ad p1)] : List Value).toArray below meth c H1 locs 0 0 (MQ below (va_Qi K (PW shM 18 D cc A ad rs) A) ([.ref (ad 0), .ref (ad p1)] : List Value).toArray s 0 0 A) (F0 m 52 ls ([.int z0]))) (fun b3 b4 z0 z1 μ => ∀ (H1 : Heap) (locs : List Loc) (ls : Array Slot), va_P D vwCl (wW shM 18 cc ad μ ++ rs) H1 → va_D A (wW shM 18 cc ad μ ++ rs) → va_S A s.heap H1 locs → lv_has ls 5 [(1, .ref (ad p1)), (3, .int b3), (4, .int b4)] → W p l e (headSpec wsX6_reached ({ frames := 0, cells := 0, slots := 0, locals := 0 })).room s m ([.ref (ad 0), .ref (ad p1)] : List Value).toArray below meth c H1 locs 0 0 (MQ below (va_Qi K (PW shM 18 D cc A ad rs) A) ([.ref (ad 0), .ref (ad p1)] : List Value).toArray s 0 0 A) (F0 m 53 ls ([.int z0, .int z1]))) ?b4 ?b13 ?b52 ?b53)
  case main =>
      refine lv_iconst (v := 1) hx hb dX6_reached_0 (by decide) ?_
      refine lv_istore_n (lv' := [(2, .int 1), (0, .ref (ad 0)), (1, .ref (ad p1))]) hx hb dX6_reached_1 rfl hl (by decide) rfl (fun ls hl => ?_)
      refine lv_iconst (v := 0) hx hb dX6_reached_2 (by decide) ?_
      refine lv_istore_n (lv' := [(3, .int 0), (2, .int 1), (0, .ref (ad 0)), (1, .ref (ad p1))]) hx hb dX6_reached_3 rfl hl (by decide) rfl (fun ls hl => ?_)
      exact h _ _ _ hP hD hS (lv_sub hl [3, 1, 0] rfl)
  case b4 =>
    intro b2 b3 μ h H locs ls hP hD hS hl
    refine lv_iload_n hx hb dX6_reached_4 rfl (lv_at hl 2 rfl) ?_
    refine lv_bipush (v := 8) hx hb dX6_reached_5 (by decide) ?_
    refine lv_icmp_ge (tgt := 67) hx hb dX6_reached_7 (by decide) (fun c1 => ?_) (fun c1 => ?_)
    · have h := h.1 c1
      refine lv_iload_n hx hb dX6_reached_67 rfl (lv_at hl 1 rfl) ?_
      exact W.iret (v := b2) hx hb hr (fun t ht hW => ⟨⟨b2, μ, rfl, h, PW.to hK hN hP hD t ht hW⟩, hS.F ht⟩) hS.2.2 dX6_reached_68
    · have h := h.2 c1
      refine lv_iconst (v := 0) hx hb dX6_reached_10 (by decide) ?_
      refine lv_istore (lv' := [(4, .int 0), (1, .ref (ad p1)), (2, .int b2), (3, .int b3)]) hx hb dX6_reached_11 hl (by decide) rfl (fun ls hl => ?_)
      exact h _ _ _ hP hD hS (lv_sub hl [1, 2, 3, 0] rfl)
  case b13 =>
    intro b2 b3 b4 μ h H locs ls hP hD hS hl
    refine lv_iload hx hb dX6_reached_13 (lv_at hl 3 rfl) ?_
    refine lv_bipush (v := 32) hx hb dX6_reached_15 (by decide) ?_
    refine lv_icmp_ge (tgt := 61) hx hb dX6_reached_17 (by decide) (fun c2 => ?_) (fun c2 => ?_)
    · have h := h.1 c2
      obtain ⟨y3, ey3⟩ : ∃ y : Int32, y = b3 + 1 := ⟨_, rfl⟩
      have h := h y3 ey3
      refine lv_iinc (v := y3) (lv' := [(3, .int y3), (1, .ref (ad p1)), (2, .int b2), (4, .int b4)]) hx hb dX6_reached_61 hl (k := 2) rfl (by rw [ey3]; rfl) (by decide) rfl (fun ls hl => ?_)
      refine lv_goto (tgt := 4) hx hb dX6_reached_64 (by decide) ?_
      exact h _ _ _ hP hD hS (lv_sub hl [1, 2, 0] rfl)
    · have h := h.2 c2
      refine lv_iload_n hx hb dX6_reached_20 rfl (lv_at hl 1 rfl) ?_
      refine lv_iload_n hx hb dX6_reached_21 rfl (lv_at hl 1 rfl) ?_
      refine lv_iload hx hb dX6_reached_22 (lv_at hl 3 rfl) ?_
      refine lv_iconst (v := 4) hx hb dX6_reached_24 (by decide) ?_
      refine lv_idiv hx hb dX6_reached_25 (by decide) ?_
      refine lv_ishr hx hb dX6_reached_26 ?_
      refine lv_iconst (v := 1) hx hb dX6_reached_27 (by decide) ?_
      refine lv_iand hx hb dX6_reached_28 ?_
      refine lv_iconst (v := 1) hx hb dX6_reached_29 (by decide) ?_
      refine lv_icmp_ne (tgt := 52) hx hb dX6_reached_30 (by decide) (fun c4 => ?_) (fun c4 => ?_)
      · have h := h.1 c4
        exact h _ _ _ hP hD hS (lv_sub hl [0, 2, 3] rfl)
      · have h := h.2 c4
        refine lv_aload_n hx hb dX6_reached_33 rfl (lv_at hl 0 rfl) ?_
        refine lv_iload hx hb dX6_reached_34 (lv_at hl 3 rfl) ?_
        obtain ⟨hi5, h⟩ := h
        refine zw_iald hx hb hK hP hp1 hi5 dX6_reached_36 ?_
        refine lv_if_lt (tgt := 52) hx hb dX6_reached_37 (by decide) (fun c6 => ?_) (fun c6 => ?_)
        · have h := h.1 c6
          exact h _ _ _ hP hD hS (lv_sub hl [0, 2, 3] rfl)
        · have h := h.2 c6
          refine lv_iconst (v := 1) hx hb dX6_reached_40 (by decide) ?_
          refine lv_aload_n hx hb dX6_reached_41 rfl (lv_at hl 0 rfl) ?_
          refine lv_iload hx hb dX6_reached_42 (lv_at hl 3 rfl) ?_
          obtain ⟨hi7, h⟩ := h
          refine zw_iald hx hb hK hP hp1 hi7 dX6_reached_44 ?_
          refine lv_bipush (v := 10) hx hb dX6_reached_45 (by decide) ?_
          refine lv_idiv hx hb dX6_reached_47 (by decide) ?_
          refine lv_ishl hx hb dX6_reached_48 ?_
          refine lv_goto (tgt := 53) hx hb dX6_reached_49 (by decide) ?_
          exact h _ _ _ hP hD hS (lv_sub hl [0, 2, 3] rfl)
  case b52 =>
    intro b3 b4 z0 μ h H locs ls hP hD hS hl
    refine lv_iconst (v := 0) hx hb dX6_reached_52 (by decide) ?_
    exact h _ _ _ hP hD hS (lv_sub hl [0, 1, 2] rfl)
  case b53 =>
    intro b3 b4 z0 z1 μ h H locs ls hP hD hS hl
    refine lv_ior hx hb dX6_reached_53 ?_
    refine lv_topi (fun y8 ey8 => ?_)
    have h := h y8 ey8
    refine lv_istore_n (lv' := [(2, .int y8), (1, .ref (ad p1)), (3, .int b3), (4, .int b4)]) hx hb dX6_reached_54 rfl hl (by decide) rfl (fun ls hl => ?_)
    obtain ⟨y9, ey9⟩ : ∃ y : Int32, y = b4 + 1 := ⟨_, rfl⟩
    have h := h y9 ey9
    refine lv_iinc (v := y9) (lv' := [(4, .int y9), (2, .int y8), (1, .ref (ad p1)), (3, .int b3)]) hx hb dX6_reached_55 hl (k := 3) rfl (by rw [ey9]; rfl) (by decide) rfl (fun ls hl => ?_)
    refine lv_goto (tgt := 13) hx hb dX6_reached_58 (by decide) ?_
    exact h _ _ _ hP hD hS (lv_sub hl [2, 1, 3, 0] rfl)
set_option maxHeartbeats 4000000 in
set_option maxRecDepth 100000 in
theorem c_X6_reachNow (l : Launch) (D : va_G) (cc : Nat → ClassId) (A : Nat → Prop) (ad : Nat → Nat) (rs : va_W) (x1 : Int32) (μ : Mem) (K : Int32 → Mem → Prop) (h : f_X6_reachNow x1 μ K) : Met l yX6_reachNow wsX6_reachNow ({ frames := 2, cells := 0, slots := 0, locals := 45 }) (va_Pc [.ref (ad 0), .int x1] (PW shM 18 D cc A ad rs μ)) (va_Qi K (PW shM 18 D cc A ad rs) A) 0 0 A := by
  refine Met.ofW (cc := cX6_reachNow) (maxL := 5) (ret := (some .int)) (by decide) rfl ?_
  intro p e s m args below meth c s₁ BB hml hv
  obtain ⟨rfl, hP, hK, hD, hN⟩ := hv
  have hx := BB.exec
  have hb := BB.bytes
  have hr := BB.returns
  have hts := atoms_spec (ws := wsX6_reachNow) BB.pre
  have hown : s.vm.findClass RX6 = some m.cls := findClass_of_methodNamed BB.named
  have hlocks := BB.notSynchronized
  have hi_X6 : ∀ w ∈ u_ws RX6 TX6 22, w ∈ wsX6_reachNow := by decide +kernel
  have hw0 := hts (.fieldLink RX6 29 "FeatureClashesModel" "one" "[I") (by decide +kernel)
  have hw1 := hts (.fieldLink RX6 7 "FeatureClashesModel" "v" "[I") (by decide +kernel)
  have hS : va_S A s.heap s.heap [] := va_S.rf
  have hl := lv_entry ([.ref (ad 0), .int x1]) (n := 5) (Nat.le_of_ble_eq_true rfl)
  rw [lg_entry_eq]
  generalize (lg_sl ([.ref (ad 0), .int x1]) ++ List.replicate (5 - (lg_sl ([.ref (ad 0), .int x1])).length) Slot.unset).toArray = ls at hl ⊢
  have hl : lv_has ls 5 [(0, .ref (ad 0)), (1, .int x1)] := hl
  unfold f_X6_reachNow at h
  refine (fun h => ?main) (h (fun b1 b2 b3 b4 μ => ∀ (H1 : Heap) (locs : List Loc) (ls : Array Slot), va_P D vwCl (wW shM 18 cc ad μ ++ rs) H1 → va_D A (wW shM 18 cc ad μ ++ rs) → va_S A s.heap H1 locs → lv_has ls 5 [(0, .ref (ad 0)), (1, .int b1), (2, .int b2), (3, .int b3), (4, .int b4)] → W p l e (headSpec wsX6_reachNow ({ frames := 2, cells := 0, slots := 0, locals := 45 })).room s m ([.ref (ad 0), .int x1] : List Value).toArray below meth c H1 locs 0 0 (MQ below (va_Qi K (PW shM 18 D cc A ad rs) A) ([.ref (ad 0), .int x1] : List Value).toArray s 0 0 A) (F0 m 42 ls ([]))) (fun b1 b2 b4 z0 μ => ∀ (H1 : Heap) (locs : List Loc) (ls : Array Slot), va_P D vwCl (wW shM 18 cc ad μ ++ rs) H1 → va_D A (wW shM 18 cc ad μ ++ rs) → va_S A s.heap H1 locs → lv_has ls 5 [(0, .ref (ad 0)), (1, .int b1), (2, .int b2), (4, .int b4)] → W p l e (headSpec wsX6_reachNow ({ frames := 2, cells := 0, slots := 0, locals := 45 })).room s m ([.ref (ad 0), .int x1] : List Value).toArray below meth c H1 locs 0 0 (MQ below (va_Qi K (PW shM 18 D cc A ad rs) A) ([.ref (ad 0), .int x1] : List Value).toArray s 0 0 A) (F0 m 82 ls ([.int z0]))) (fun b1 b2 b4 z0 z1 μ => ∀ (H1 : Heap) (locs : List Loc) (ls : Array Slot), va_P D vwCl (wW shM 18 cc ad μ ++ rs) H1 → va_D A (wW shM 18 cc ad μ ++ rs) → va_S A s.heap H1 locs → lv_has ls 5 [(0, .ref (ad 0)), (1, .int b1), (2, .int b2), (4, .int b4)] → W p l e (headSpec wsX6_reachNow ({ frames := 2, cells := 0, slots := 0, locals := 45 })).room s m ([.ref (ad 0), .int x1] : List Value).toArray below meth c H1 locs 0 0 (MQ below (va_Qi K (PW shM 18 D cc A ad rs) A) ([.ref (ad 0), .int x1] : List Value).toArray s 0 0 A) (F0 m 83 ls ([.int z0, .int z1]))) ?b42 ?b82 ?b83)
  case main =>
      refine lv_aload_n hx hb dX6_reachNow_0 rfl (lv_at hl 0 rfl) ?_
      refine lv_aload_n hx hb dX6_reachNow_1 rfl (lv_at hl 0 rfl) ?_
      refine zw_get (C := RX6) (T := TX6) (M := 22) (v := .ref (ad 7)) hx hb hts hi_X6 hown hK hP kM_0 rfl 10 (by decide) hw0 rfl dX6_reachNow_2 ?_
      refine zc_v (zc_runV (As := [.ref (ad 7)]) (rest := []) ⟨hx, hb, hml, hown, hts⟩ (c_X6_base l D cc A ad rs 7 kM_7 μ _ h) (cwV 1 hts gX6_reachNow_X6_base rfl rfl rfl (by decide +kernel) ⟨Nat.le_of_ble_eq_true rfl, Nat.le_of_ble_eq_true rfl⟩) kM_0 rfl hK hN hP hD rfl hl.1 rfl (Nat.le_of_ble_eq_true rfl) dX6_reachNow_5 ⟨Nat.zero_le _, Nat.zero_le _⟩) hS (fun μ2 H locs h hP hD hS => ?_)
      refine lv_aload_n hx hb dX6_reachNow_8 rfl (lv_at hl 0 rfl) ?_
      refine lv_aload_n hx hb dX6_reachNow_9 rfl (lv_at hl 0 rfl) ?_
      refine zw_get (C := RX6) (T := TX6) (M := 22) (v := .ref (ad 7)) hx hb hts hi_X6 hown hK hP kM_0 rfl 10 (by decide) hw0 rfl dX6_reachNow_10 ?_
      refine zc_i (zc_runV (As := [.ref (ad 7)]) (rest := []) ⟨hx, hb, hml, hown, hts⟩ (c_X6_reached l D cc A ad rs 7 kM_7 μ2 _ h) (cwV 1 hts gX6_reachNow_X6_reached rfl rfl rfl (by decide +kernel) ⟨Nat.le_of_ble_eq_true rfl, Nat.le_of_ble_eq_true rfl⟩) kM_0 rfl hK hN hP hD rfl hl.1 rfl (Nat.le_of_ble_eq_true rfl) dX6_reachNow_13 ⟨Nat.zero_le _, Nat.zero_le _⟩) hS (fun r3 μ4 H locs h hP hD hS => ?_)
      refine lv_istore_n (lv' := [(2, .int r3), (0, .ref (ad 0)), (1, .int x1)]) hx hb dX6_reachNow_16 rfl hl (by decide) rfl (fun ls hl => ?_)
      refine lv_aload_n hx hb dX6_reachNow_17 rfl (lv_at hl 1 rfl) ?_
      refine lv_aload_n hx hb dX6_reachNow_18 rfl (lv_at hl 1 rfl) ?_
      refine zw_get (C := RX6) (T := TX6) (M := 22) (v := .ref (ad 7)) hx hb hts hi_X6 hown hK hP kM_0 rfl 10 (by decide) hw0 rfl dX6_reachNow_19 ?_
      refine lv_iload_n hx hb dX6_reachNow_22 rfl (lv_at hl 2 rfl) ?_
      refine zc_v (zc_runV (As := [.ref (ad 7), .int x1]) (rest := []) ⟨hx, hb, hml, hown, hts⟩ (c_X6_putsOn l D cc A ad rs 7 kM_7 x1 μ4 _ h) (cwV 2 hts gX6_reachNow_X6_putsOn rfl rfl rfl (by decide +kernel) ⟨Nat.le_of_ble_eq_true rfl, Nat.le_of_ble_eq_true rfl⟩) kM_0 rfl hK hN hP hD rfl hl.1 rfl (Nat.le_of_ble_eq_true rfl) dX6_reachNow_23 ⟨Nat.zero_le _, Nat.zero_le _⟩) hS (fun μ6 H locs h hP hD hS => ?_)
      refine lv_iload_n hx hb dX6_reachNow_26 rfl (lv_at hl 0 rfl) ?_
      refine lv_aload_n hx hb dX6_reachNow_27 rfl (lv_at hl 1 rfl) ?_
      refine lv_aload_n hx hb dX6_reachNow_28 rfl (lv_at hl 1 rfl) ?_
      refine zw_get (C := RX6) (T := TX6) (M := 22) (v := .ref (ad 7)) hx hb hts hi_X6 hown hK hP kM_0 rfl 10 (by decide) hw0 rfl dX6_reachNow_29 ?_
      refine zc_i (zc_runV (As := [.ref (ad 7)]) (rest := [.int r3]) ⟨hx, hb, hml, hown, hts⟩ (c_X6_reached l D cc A ad rs 7 kM_7 μ6 _ h) (cwV 1 hts gX6_reachNow_X6_reached rfl rfl rfl (by decide +kernel) ⟨Nat.le_of_ble_eq_true rfl, Nat.le_of_ble_eq_true rfl⟩) kM_0 rfl hK hN hP hD rfl hl.1 rfl (Nat.le_of_ble_eq_true rfl) dX6_reachNow_32 ⟨Nat.zero_le _, Nat.zero_le _⟩) hS (fun r7 μ8 H locs h hP hD hS => ?_)
      refine lv_ior hx hb dX6_reachNow_35 ?_
      refine lv_topi (fun y9 ey9 => ?_)
      have h := h y9 ey9
      refine lv_istore_n (lv' := [(2, .int y9), (0, .ref (ad 0)), (1, .int x1)]) hx hb dX6_reachNow_36 rfl hl (by decide) rfl (fun ls hl => ?_)
      refine lv_iconst (v := 0) hx hb dX6_reachNow_37 (by decide) ?_
      refine lv_istore_n (lv' := [(3, .int 0), (2, .int y9), (0, .ref (ad 0)), (1, .int x1)]) hx hb dX6_reachNow_38 rfl hl (by decide) rfl (fun ls hl => ?_)
      refine lv_iconst (v := 0) hx hb dX6_reachNow_39 (by decide) ?_
      refine lv_istore (lv' := [(4, .int 0), (3, .int 0), (2, .int y9), (0, .ref (ad 0)), (1, .int x1)]) hx hb dX6_reachNow_40 hl (by decide) rfl (fun ls hl => ?_)
      exact h _ _ _ hP hD hS (lv_sub hl [3, 4, 2, 1, 0] rfl)
  case b42 =>
    intro b1 b2 b3 b4 μ h H locs ls hP hD hS hl
    refine lv_iload hx hb dX6_reachNow_42 (lv_at hl 4 rfl) ?_
    refine lv_bipush (v := 32) hx hb dX6_reachNow_44 (by decide) ?_
    refine lv_icmp_ge (tgt := 91) hx hb dX6_reachNow_46 (by decide) (fun c10 => ?_) (fun c10 => ?_)
    · have h := h.1 c10
      refine lv_iload_n hx hb dX6_reachNow_91 rfl (lv_at hl 3 rfl) ?_
      exact W.iret (v := b3) hx hb hr (fun t ht hW => ⟨⟨b3, μ, rfl, h, PW.to hK hN hP hD t ht hW⟩, hS.F ht⟩) hS.2.2 dX6_reachNow_92
    · have h := h.2 c10
      refine lv_iload_n hx hb dX6_reachNow_49 rfl (lv_at hl 3 rfl) ?_
      refine lv_aload_n hx hb dX6_reachNow_50 rfl (lv_at hl 0 rfl) ?_
      refine zw_get (C := RX6) (T := TX6) (M := 22) (v := .ref (ad 1)) hx hb hts hi_X6 hown hK hP kM_0 rfl 0 (by decide) hw1 rfl dX6_reachNow_51 ?_
      refine lv_iload_n hx hb dX6_reachNow_54 rfl (lv_at hl 1 rfl) ?_
      refine lv_iconst (v := 1) hx hb dX6_reachNow_55 (by decide) ?_
      refine lv_iload hx hb dX6_reachNow_56 (lv_at hl 4 rfl) ?_
      refine lv_iadd hx hb dX6_reachNow_58 ?_
      refine zc_i (zc_runS (As := [.int b1, .int (1 + b4)]) (rest := [.ref (ad 1), .int b3]) ⟨hx, hb, hml, hown, hts⟩ (c_X6_at l D cc A ad rs b1 (1 + b4) μ _ h) (va_cwS 2 hts gX6_reachNow_X6_at rfl rfl rfl (by decide +kernel) ⟨Nat.le_of_ble_eq_true rfl, Nat.le_of_ble_eq_true rfl⟩) hK hN hP hD rfl hl.1 rfl (Nat.le_of_ble_eq_true rfl) dX6_reachNow_59 ⟨Nat.zero_le _, Nat.zero_le _⟩) hS (fun r11 μ12 H locs h hP hD hS => ?_)
      obtain ⟨hi13, h⟩ := h
      refine zw_iald hx hb hK hP kM_1 hi13 dX6_reachNow_62 ?_
      refine lv_if_lt (tgt := 82) hx hb dX6_reachNow_63 (by decide) (fun c14 => ?_) (fun c14 => ?_)
      · have h := h.1 c14
        exact h _ _ _ hP hD hS (lv_sub hl [0, 1, 2, 4] rfl)
      · have h := h.2 c14
        refine lv_iload_n hx hb dX6_reachNow_66 rfl (lv_at hl 2 rfl) ?_
        refine lv_iload hx hb dX6_reachNow_67 (lv_at hl 4 rfl) ?_
        refine lv_iconst (v := 4) hx hb dX6_reachNow_69 (by decide) ?_
        refine lv_idiv hx hb dX6_reachNow_70 (by decide) ?_
        refine lv_ishr hx hb dX6_reachNow_71 ?_
        refine lv_iconst (v := 1) hx hb dX6_reachNow_72 (by decide) ?_
        refine lv_iand hx hb dX6_reachNow_73 ?_
        refine lv_iconst (v := 1) hx hb dX6_reachNow_74 (by decide) ?_
        refine lv_icmp_ne (tgt := 82) hx hb dX6_reachNow_75 (by decide) (fun c15 => ?_) (fun c15 => ?_)
        · have h := h.1 c15
          exact h _ _ _ hP hD hS (lv_sub hl [0, 1, 2, 4] rfl)
        · have h := h.2 c15
          refine lv_iconst (v := 1) hx hb dX6_reachNow_78 (by decide) ?_
          refine lv_goto (tgt := 83) hx hb dX6_reachNow_79 (by decide) ?_
          exact h _ _ _ hP hD hS (lv_sub hl [0, 1, 2, 4] rfl)
  case b82 =>
    intro b1 b2 b4 z0 μ h H locs ls hP hD hS hl
    refine lv_iconst (v := 0) hx hb dX6_reachNow_82 (by decide) ?_
    exact h _ _ _ hP hD hS (lv_sub hl [0, 1, 2, 3] rfl)
  case b83 =>
    intro b1 b2 b4 z0 z1 μ h H locs ls hP hD hS hl
    refine lv_iadd hx hb dX6_reachNow_83 ?_
    refine lv_topi (fun y16 ey16 => ?_)
    have h := h y16 ey16
    refine lv_istore_n (lv' := [(3, .int y16), (0, .ref (ad 0)), (1, .int b1), (2, .int b2), (4, .int b4)]) hx hb dX6_reachNow_84 rfl hl (by decide) rfl (fun ls hl => ?_)
    obtain ⟨y17, ey17⟩ : ∃ y : Int32, y = b4 + 1 := ⟨_, rfl⟩
    have h := h y17 ey17
    refine lv_iinc (v := y17) (lv' := [(4, .int y17), (3, .int y16), (0, .ref (ad 0)), (1, .int b1), (2, .int b2)]) hx hb dX6_reachNow_85 hl (k := 4) rfl (by rw [ey17]; rfl) (by decide) rfl (fun ls hl => ?_)
    refine lv_goto (tgt := 42) hx hb dX6_reachNow_88 (by decide) ?_
    exact h _ _ _ hP hD hS (lv_sub hl [2, 3, 4, 1, 0] rfl)
set_option maxHeartbeats 4000000 in
set_option maxRecDepth 100000 in
theorem c_X6_reach (l : Launch) (D : va_G) (cc : Nat → ClassId) (A : Nat → Prop) (ad : Nat → Nat) (rs : va_W) (x1 : Int32) (μ : Mem) (K : Int32 → Mem → Prop) (h : f_X6_reach x1 μ K) : Met l yX6_reach wsX6_reach ({ frames := 3, cells := 0, slots := 0, locals := 69 }) (va_Pc [.ref (ad 0), .int x1] (PW shM 18 D cc A ad rs μ)) (va_Qi K (PW shM 18 D cc A ad rs) A) 0 0 A := by
  refine Met.ofW (cc := cX6_reach) (maxL := 2) (ret := (some .int)) (by decide) rfl ?_
  intro p e s m args below meth c s₁ BB hml hv
  obtain ⟨rfl, hP, hK, hD, hN⟩ := hv
  have hx := BB.exec
  have hb := BB.bytes
  have hr := BB.returns
  have hts := atoms_spec (ws := wsX6_reach) BB.pre
  have hown : s.vm.findClass RX6 = some m.cls := findClass_of_methodNamed BB.named
  have hlocks := BB.notSynchronized
  have hS : va_S A s.heap s.heap [] := va_S.rf
  have hl := lv_entry ([.ref (ad 0), .int x1]) (n := 2) (Nat.le_of_ble_eq_true rfl)
  rw [lg_entry_eq]
  generalize (lg_sl ([.ref (ad 0), .int x1]) ++ List.replicate (2 - (lg_sl ([.ref (ad 0), .int x1])).length) Slot.unset).toArray = ls at hl ⊢
  have hl : lv_has ls 2 [(0, .ref (ad 0)), (1, .int x1)] := hl
  unfold f_X6_reach at h
  refine lv_aload_n hx hb dX6_reach_0 rfl (lv_at hl 0 rfl) ?_
  refine lv_iload_n hx hb dX6_reach_1 rfl (lv_at hl 1 rfl) ?_
  refine zc_i (zc_runV (As := [.int x1]) (rest := []) ⟨hx, hb, hml, hown, hts⟩ (c_X6_isFeature l D cc A ad rs x1 μ _ h) (cwV 1 hts gX6_reach_X6_isFeature rfl rfl rfl (by decide +kernel) ⟨Nat.le_of_ble_eq_true rfl, Nat.le_of_ble_eq_true rfl⟩) kM_0 rfl hK hN hP hD rfl hl.1 rfl (Nat.le_of_ble_eq_true rfl) dX6_reach_2 ⟨Nat.zero_le _, Nat.zero_le _⟩) hS (fun r1 μ2 H locs h hP hD hS => ?_)
  refine lv_if_eq (tgt := 16) hx hb dX6_reach_5 (by decide) (fun c3 => ?_) (fun c3 => ?_)
  · have h := h.1 c3
    refine lv_iconst (v := (-1)) hx hb dX6_reach_16 (by decide) ?_
    exact W.iret (v := (-1)) hx hb hr (fun t ht hW => ⟨⟨(-1), μ2, rfl, h, PW.to hK hN hP hD t ht hW⟩, hS.F ht⟩) hS.2.2 dX6_reach_17
  · have h := h.2 c3
    refine lv_aload_n hx hb dX6_reach_8 rfl (lv_at hl 0 rfl) ?_
    refine lv_iload_n hx hb dX6_reach_9 rfl (lv_at hl 1 rfl) ?_
    refine zc_i (zc_runV (As := [.int x1]) (rest := []) ⟨hx, hb, hml, hown, hts⟩ (c_X6_reachNow l D cc A ad rs x1 μ2 _ h) (cwV 1 hts gX6_reach_X6_reachNow rfl rfl rfl (by decide +kernel) ⟨Nat.le_of_ble_eq_true rfl, Nat.le_of_ble_eq_true rfl⟩) kM_0 rfl hK hN hP hD rfl hl.1 rfl (Nat.le_of_ble_eq_true rfl) dX6_reach_10 ⟨Nat.zero_le _, Nat.zero_le _⟩) hS (fun r4 μ5 H locs h hP hD hS => ?_)
    refine lv_goto (tgt := 17) hx hb dX6_reach_13 (by decide) ?_
    exact W.iret (v := r4) hx hb hr (fun t ht hW => ⟨⟨r4, μ5, rfl, h, PW.to hK hN hP hD t ht hW⟩, hS.F ht⟩) hS.2.2 dX6_reach_17
set_option maxHeartbeats 4000000 in
set_option maxRecDepth 100000 in
theorem c_X6_findBehind (l : Launch) (D : va_G) (cc : Nat → ClassId) (A : Nat → Prop) (ad : Nat → Nat) (rs : va_W)  (μ : Mem) (K : Mem → Prop) (h : f_X6_findBehind  μ K) : Met l yX6_findBehind wsX6_findBehind ({ frames := 1, cells := 0, slots := 0, locals := 21 }) (va_Pc [.ref (ad 0)] (PW shM 18 D cc A ad rs μ)) (va_Qv K (PW shM 18 D cc A ad rs) A) 0 0 A := by
  refine Met.ofW (cc := cX6_findBehind) (maxL := 4) (ret := none) (by decide) rfl ?_
  intro p e s m args below meth c s₁ BB hml hv
  obtain ⟨rfl, hP, hK, hD, hN⟩ := hv
  have hx := BB.exec
  have hb := BB.bytes
  have hr := BB.returns
  have hts := atoms_spec (ws := wsX6_findBehind) BB.pre
  have hown : s.vm.findClass RX6 = some m.cls := findClass_of_methodNamed BB.named
  have hlocks := BB.notSynchronized
  have hi_X6 : ∀ w ∈ u_ws RX6 TX6 22, w ∈ wsX6_findBehind := by decide +kernel
  have hw0 := hts (.fieldLink RX6 59 "FeatureClashesModel" "behind" "[I") (by decide +kernel)
  have hw1 := hts (.fieldLink RX6 7 "FeatureClashesModel" "v" "[I") (by decide +kernel)
  have hS : va_S A s.heap s.heap [] := va_S.rf
  have hl := lv_entry ([.ref (ad 0)]) (n := 4) (Nat.le_of_ble_eq_true rfl)
  rw [lg_entry_eq]
  generalize (lg_sl ([.ref (ad 0)]) ++ List.replicate (4 - (lg_sl ([.ref (ad 0)])).length) Slot.unset).toArray = ls at hl ⊢
  have hl : lv_has ls 4 [(0, .ref (ad 0))] := hl
  unfold f_X6_findBehind at h
  refine (fun h => ?main) (h (fun b1 μ => ∀ (H1 : Heap) (locs : List Loc) (ls : Array Slot), va_P D vwCl (wW shM 18 cc ad μ ++ rs) H1 → va_D A (wW shM 18 cc ad μ ++ rs) → va_S A s.heap H1 locs → lv_has ls 4 [(0, .ref (ad 0)), (1, .int b1)] → W p l e (headSpec wsX6_findBehind ({ frames := 1, cells := 0, slots := 0, locals := 21 })).room s m ([.ref (ad 0)] : List Value).toArray below meth c H1 locs 0 0 (MQ below (va_Qv K (PW shM 18 D cc A ad rs) A) ([.ref (ad 0)] : List Value).toArray s 0 0 A) (F0 m 2 ls ([]))) (fun b1 μ => ∀ (H1 : Heap) (locs : List Loc) (ls : Array Slot), va_P D vwCl (wW shM 18 cc ad μ ++ rs) H1 → va_D A (wW shM 18 cc ad μ ++ rs) → va_S A s.heap H1 locs → lv_has ls 4 [(0, .ref (ad 0)), (1, .int b1)] → W p l e (headSpec wsX6_findBehind ({ frames := 1, cells := 0, slots := 0, locals := 21 })).room s m ([.ref (ad 0)] : List Value).toArray below meth c H1 locs 0 0 (MQ below (va_Qv K (PW shM 18 D cc A ad rs) A) ([.ref (ad 0)] : List Value).toArray s 0 0 A) (F0 m 48 ls ([]))) (fun b1 z0 z1 μ => ∀ (H1 : Heap) (locs : List Loc) (ls : Array Slot), va_P D vwCl (wW shM 18 cc ad μ ++ rs) H1 → va_D A (wW shM 18 cc ad μ ++ rs) → va_S A s.heap H1 locs → lv_has ls 4 [(0, .ref (ad 0)), (1, .int b1)] → W p l e (headSpec wsX6_findBehind ({ frames := 1, cells := 0, slots := 0, locals := 21 })).room s m ([.ref (ad 0)] : List Value).toArray below meth c H1 locs 0 0 (MQ below (va_Qv K (PW shM 18 D cc A ad rs) A) ([.ref (ad 0)] : List Value).toArray s 0 0 A) (F0 m 39 ls ([.int z0, .int z1, .ref (ad 17)]))) (fun b1 b2 μ => ∀ (H1 : Heap) (locs : List Loc) (ls : Array Slot), va_P D vwCl (wW shM 18 cc ad μ ++ rs) H1 → va_D A (wW shM 18 cc ad μ ++ rs) → va_S A s.heap H1 locs → lv_has ls 4 [(0, .ref (ad 0)), (1, .int b1), (2, .int b2)] → W p l e (headSpec wsX6_findBehind ({ frames := 1, cells := 0, slots := 0, locals := 21 })).room s m ([.ref (ad 0)] : List Value).toArray below meth c H1 locs 0 0 (MQ below (va_Qv K (PW shM 18 D cc A ad rs) A) ([.ref (ad 0)] : List Value).toArray s 0 0 A) (F0 m 56 ls ([]))) (fun b1 b2 b3 μ => ∀ (H1 : Heap) (locs : List Loc) (ls : Array Slot), va_P D vwCl (wW shM 18 cc ad μ ++ rs) H1 → va_D A (wW shM 18 cc ad μ ++ rs) → va_S A s.heap H1 locs → lv_has ls 4 [(0, .ref (ad 0)), (1, .int b1), (2, .int b2), (3, .int b3)] → W p l e (headSpec wsX6_findBehind ({ frames := 1, cells := 0, slots := 0, locals := 21 })).room s m ([.ref (ad 0)] : List Value).toArray below meth c H1 locs 0 0 (MQ below (va_Qv K (PW shM 18 D cc A ad rs) A) ([.ref (ad 0)] : List Value).toArray s 0 0 A) (F0 m 64 ls ([]))) (fun b1 b2 b3 z0 z1 z2 μ => ∀ (H1 : Heap) (locs : List Loc) (ls : Array Slot), va_P D vwCl (wW shM 18 cc ad μ ++ rs) H1 → va_D A (wW shM 18 cc ad μ ++ rs) → va_S A s.heap H1 locs → lv_has ls 4 [(0, .ref (ad 0)), (1, .int b1), (2, .int b2), (3, .int b3)] → W p l e (headSpec wsX6_findBehind ({ frames := 1, cells := 0, slots := 0, locals := 21 })).room s m ([.ref (ad 0)] : List Value).toArray below meth c H1 locs 0 0 (MQ below (va_Qv K (PW shM 18 D cc A ad rs) A) ([.ref (ad 0)] : List Value).toArray s 0 0 A) (F0 m 101 ls ([.int z0, .int z1, .int z2, .ref (ad 17)]))) ?b2 ?b48 ?b39 ?b56 ?b64 ?b101)
  case main =>
      refine lv_iconst (v := 0) hx hb dX6_findBehind_0 (by decide) ?_
      refine lv_istore_n (lv' := [(1, .int 0), (0, .ref (ad 0))]) hx hb dX6_findBehind_1 rfl hl (by decide) rfl (fun ls hl => ?_)
      exact h _ _ _ hP hD hS (lv_sub hl [1, 0] rfl)
  case b2 =>
    intro b1 μ h H locs ls hP hD hS hl
    refine lv_iload_n hx hb dX6_findBehind_2 rfl (lv_at hl 1 rfl) ?_
    refine lv_bipush (v := 6) hx hb dX6_findBehind_3 (by decide) ?_
    refine lv_icmp_ge (tgt := 46) hx hb dX6_findBehind_5 (by decide) (fun c1 => ?_) (fun c1 => ?_)
    · have h := h.1 c1
      refine lv_iconst (v := 0) hx hb dX6_findBehind_46 (by decide) ?_
      refine lv_istore_n (lv' := [(1, .int 0), (0, .ref (ad 0))]) hx hb dX6_findBehind_47 rfl hl (by decide) rfl (fun ls hl => ?_)
      exact h _ _ _ hP hD hS (lv_sub hl [1, 0] rfl)
    · have h := h.2 c1
      refine lv_aload_n hx hb dX6_findBehind_8 rfl (lv_at hl 0 rfl) ?_
      refine zw_get (C := RX6) (T := TX6) (M := 22) (v := .ref (ad 17)) hx hb hts hi_X6 hown hK hP kM_0 rfl 21 (by decide) hw0 rfl dX6_findBehind_9 ?_
      refine lv_iload_n hx hb dX6_findBehind_12 rfl (lv_at hl 1 rfl) ?_
      refine lv_iload_n hx hb dX6_findBehind_13 rfl (lv_at hl 1 rfl) ?_
      refine lv_aload_n hx hb dX6_findBehind_14 rfl (lv_at hl 0 rfl) ?_
      refine zw_get (C := RX6) (T := TX6) (M := 22) (v := .ref (ad 1)) hx hb hts hi_X6 hown hK hP kM_0 rfl 0 (by decide) hw1 rfl dX6_findBehind_15 ?_
      refine lv_bipush (v := 34) hx hb dX6_findBehind_18 (by decide) ?_
      obtain ⟨hi2, h⟩ := h
      refine zw_iald hx hb hK hP kM_1 hi2 dX6_findBehind_20 ?_
      refine lv_icmp_ge (tgt := 38) hx hb dX6_findBehind_21 (by decide) (fun c3 => ?_) (fun c3 => ?_)
      · have h := h.1 c3
        refine lv_iconst (v := 0) hx hb dX6_findBehind_38 (by decide) ?_
        exact h _ _ _ hP hD hS (lv_sub hl [0, 1] rfl)
      · have h := h.2 c3
        refine lv_aload_n hx hb dX6_findBehind_24 rfl (lv_at hl 0 rfl) ?_
        refine zw_get (C := RX6) (T := TX6) (M := 22) (v := .ref (ad 1)) hx hb hts hi_X6 hown hK hP kM_0 rfl 0 (by decide) hw1 rfl dX6_findBehind_25 ?_
        refine lv_iload_n hx hb dX6_findBehind_28 rfl (lv_at hl 1 rfl) ?_
        refine lv_bipush (v := 33) hx hb dX6_findBehind_29 (by decide) ?_
        refine zc_i (zc_runS (As := [.int b1, .int 33]) (rest := [.ref (ad 1), .int b1, .ref (ad 17)]) ⟨hx, hb, hml, hown, hts⟩ (c_X6_at l D cc A ad rs b1 33 μ _ h) (va_cwS 2 hts gX6_findBehind_X6_at rfl rfl rfl (by decide +kernel) ⟨Nat.le_of_ble_eq_true rfl, Nat.le_of_ble_eq_true rfl⟩) hK hN hP hD rfl hl.1 rfl (Nat.le_of_ble_eq_true rfl) dX6_findBehind_31 ⟨Nat.zero_le _, Nat.zero_le _⟩) hS (fun r4 μ5 H locs h hP hD hS => ?_)
        obtain ⟨hi6, h⟩ := h
        refine zw_iald hx hb hK hP kM_1 hi6 dX6_findBehind_34 ?_
        refine lv_goto (tgt := 39) hx hb dX6_findBehind_35 (by decide) ?_
        exact h _ _ _ hP hD hS (lv_sub hl [0, 1] rfl)
  case b48 =>
    intro b1 μ h H locs ls hP hD hS hl
    refine lv_iload_n hx hb dX6_findBehind_48 rfl (lv_at hl 1 rfl) ?_
    refine lv_bipush (v := 6) hx hb dX6_findBehind_49 (by decide) ?_
    refine lv_icmp_ge (tgt := 121) hx hb dX6_findBehind_51 (by decide) (fun c7 => ?_) (fun c7 => ?_)
    · have h := h.1 c7
      exact W.vret hx hb hr (fun t ht hW => ⟨⟨μ, rfl, h, PW.to hK hN hP hD t ht hW⟩, hS.F ht⟩) hS.2.2 dX6_findBehind_121
    · have h := h.2 c7
      refine lv_iconst (v := 0) hx hb dX6_findBehind_54 (by decide) ?_
      refine lv_istore_n (lv' := [(2, .int 0), (0, .ref (ad 0)), (1, .int b1)]) hx hb dX6_findBehind_55 rfl hl (by decide) rfl (fun ls hl => ?_)
      exact h _ _ _ hP hD hS (lv_sub hl [1, 2, 0] rfl)
  case b39 =>
    intro b1 z0 z1 μ h H locs ls hP hD hS hl
    obtain ⟨hi8, h⟩ := h
    refine zw_iast hx hb hK hP hD hS kM_17 hi8 dX6_findBehind_39 (fun μ9 H locs eμ9 hP hD hS => ?_)
    have h := h μ9 eμ9
    obtain ⟨y10, ey10⟩ : ∃ y : Int32, y = b1 + 1 := ⟨_, rfl⟩
    have h := h y10 ey10
    refine lv_iinc (v := y10) (lv' := [(1, .int y10), (0, .ref (ad 0))]) hx hb dX6_findBehind_40 hl (k := 1) rfl (by rw [ey10]; rfl) (by decide) rfl (fun ls hl => ?_)
    refine lv_goto (tgt := 2) hx hb dX6_findBehind_43 (by decide) ?_
    exact h _ _ _ hP hD hS (lv_sub hl [1, 0] rfl)
  case b56 =>
    intro b1 b2 μ h H locs ls hP hD hS hl
    refine lv_iload_n hx hb dX6_findBehind_56 rfl (lv_at hl 2 rfl) ?_
    refine lv_bipush (v := 6) hx hb dX6_findBehind_57 (by decide) ?_
    refine lv_icmp_ge (tgt := 115) hx hb dX6_findBehind_59 (by decide) (fun c11 => ?_) (fun c11 => ?_)
    · have h := h.1 c11
      obtain ⟨y12, ey12⟩ : ∃ y : Int32, y = b1 + 1 := ⟨_, rfl⟩
      have h := h y12 ey12
      refine lv_iinc (v := y12) (lv' := [(1, .int y12), (0, .ref (ad 0)), (2, .int b2)]) hx hb dX6_findBehind_115 hl (k := 1) rfl (by rw [ey12]; rfl) (by decide) rfl (fun ls hl => ?_)
      refine lv_goto (tgt := 48) hx hb dX6_findBehind_118 (by decide) ?_
      exact h _ _ _ hP hD hS (lv_sub hl [1, 0] rfl)
    · have h := h.2 c11
      refine lv_iconst (v := 0) hx hb dX6_findBehind_62 (by decide) ?_
      refine lv_istore_n (lv' := [(3, .int 0), (0, .ref (ad 0)), (1, .int b1), (2, .int b2)]) hx hb dX6_findBehind_63 rfl hl (by decide) rfl (fun ls hl => ?_)
      exact h _ _ _ hP hD hS (lv_sub hl [1, 2, 3, 0] rfl)
  case b64 =>
    intro b1 b2 b3 μ h H locs ls hP hD hS hl
    refine lv_iload_n hx hb dX6_findBehind_64 rfl (lv_at hl 3 rfl) ?_
    refine lv_bipush (v := 6) hx hb dX6_findBehind_65 (by decide) ?_
    refine lv_icmp_ge (tgt := 109) hx hb dX6_findBehind_67 (by decide) (fun c13 => ?_) (fun c13 => ?_)
    · have h := h.1 c13
      obtain ⟨y14, ey14⟩ : ∃ y : Int32, y = b2 + 1 := ⟨_, rfl⟩
      have h := h y14 ey14
      refine lv_iinc (v := y14) (lv' := [(2, .int y14), (0, .ref (ad 0)), (1, .int b1), (3, .int b3)]) hx hb dX6_findBehind_109 hl (k := 2) rfl (by rw [ey14]; rfl) (by decide) rfl (fun ls hl => ?_)
      refine lv_goto (tgt := 56) hx hb dX6_findBehind_112 (by decide) ?_
      exact h _ _ _ hP hD hS (lv_sub hl [1, 2, 0] rfl)
    · have h := h.2 c13
      refine lv_aload_n hx hb dX6_findBehind_70 rfl (lv_at hl 0 rfl) ?_
      refine zw_get (C := RX6) (T := TX6) (M := 22) (v := .ref (ad 17)) hx hb hts hi_X6 hown hK hP kM_0 rfl 21 (by decide) hw0 rfl dX6_findBehind_71 ?_
      refine lv_iload_n hx hb dX6_findBehind_74 rfl (lv_at hl 2 rfl) ?_
      refine lv_dup2_11 hx hb dX6_findBehind_75 rfl rfl ?_
      obtain ⟨hi15, h⟩ := h
      refine zw_iald hx hb hK hP kM_17 hi15 dX6_findBehind_76 ?_
      refine lv_aload_n hx hb dX6_findBehind_77 rfl (lv_at hl 0 rfl) ?_
      refine zw_get (C := RX6) (T := TX6) (M := 22) (v := .ref (ad 17)) hx hb hts hi_X6 hown hK hP kM_0 rfl 21 (by decide) hw0 rfl dX6_findBehind_78 ?_
      refine lv_iload_n hx hb dX6_findBehind_81 rfl (lv_at hl 2 rfl) ?_
      obtain ⟨hi16, h⟩ := h
      refine zw_iald hx hb hK hP kM_17 hi16 dX6_findBehind_82 ?_
      refine lv_iload_n hx hb dX6_findBehind_83 rfl (lv_at hl 3 rfl) ?_
      refine lv_ishr hx hb dX6_findBehind_84 ?_
      refine lv_iconst (v := 1) hx hb dX6_findBehind_85 (by decide) ?_
      refine lv_iand hx hb dX6_findBehind_86 ?_
      refine lv_iconst (v := 1) hx hb dX6_findBehind_87 (by decide) ?_
      refine lv_icmp_ne (tgt := 100) hx hb dX6_findBehind_88 (by decide) (fun c17 => ?_) (fun c17 => ?_)
      · have h := h.1 c17
        refine lv_iconst (v := 0) hx hb dX6_findBehind_100 (by decide) ?_
        exact h _ _ _ hP hD hS (lv_sub hl [0, 1, 2, 3] rfl)
      · have h := h.2 c17
        refine lv_aload_n hx hb dX6_findBehind_91 rfl (lv_at hl 0 rfl) ?_
        refine zw_get (C := RX6) (T := TX6) (M := 22) (v := .ref (ad 17)) hx hb hts hi_X6 hown hK hP kM_0 rfl 21 (by decide) hw0 rfl dX6_findBehind_92 ?_
        refine lv_iload_n hx hb dX6_findBehind_95 rfl (lv_at hl 3 rfl) ?_
        obtain ⟨hi18, h⟩ := h
        refine zw_iald hx hb hK hP kM_17 hi18 dX6_findBehind_96 ?_
        refine lv_goto (tgt := 101) hx hb dX6_findBehind_97 (by decide) ?_
        exact h _ _ _ hP hD hS (lv_sub hl [0, 1, 2, 3] rfl)
  case b101 =>
    intro b1 b2 b3 z0 z1 z2 μ h H locs ls hP hD hS hl
    refine lv_ior hx hb dX6_findBehind_101 ?_
    obtain ⟨hi19, h⟩ := h
    refine zw_iast hx hb hK hP hD hS kM_17 hi19 dX6_findBehind_102 (fun μ20 H locs eμ20 hP hD hS => ?_)
    have h := h μ20 eμ20
    obtain ⟨y21, ey21⟩ : ∃ y : Int32, y = b3 + 1 := ⟨_, rfl⟩
    have h := h y21 ey21
    refine lv_iinc (v := y21) (lv' := [(3, .int y21), (0, .ref (ad 0)), (1, .int b1), (2, .int b2)]) hx hb dX6_findBehind_103 hl (k := 3) rfl (by rw [ey21]; rfl) (by decide) rfl (fun ls hl => ?_)
    refine lv_goto (tgt := 64) hx hb dX6_findBehind_106 (by decide) ?_
    exact h _ _ _ hP hD hS (lv_sub hl [1, 2, 3, 0] rfl)
set_option maxHeartbeats 4000000 in
set_option maxRecDepth 100000 in
theorem c_X6_isAhead (l : Launch) (D : va_G) (cc : Nat → ClassId) (A : Nat → Prop) (ad : Nat → Nat) (rs : va_W) (x1 : Int32) (x2 : Int32) (μ : Mem) (K : Int32 → Mem → Prop) (h : f_X6_isAhead x1 x2 μ K) : Met l yX6_isAhead wsX6_isAhead ({ frames := 0, cells := 0, slots := 0, locals := 0 }) (va_Pc [.ref (ad 0), .int x1, .int x2] (PW shM 18 D cc A ad rs μ)) (va_Qi K (PW shM 18 D cc A ad rs) A) 0 0 A := by
  refine Met.ofW (cc := cX6_isAhead) (maxL := 3) (ret := (some .boolean)) (by decide) rfl ?_
  intro p e s m args below meth c s₁ BB hml hv
  obtain ⟨rfl, hP, hK, hD, hN⟩ := hv
  have hx := BB.exec
  have hb := BB.bytes
  have hr := BB.returns
  have hts := atoms_spec (ws := wsX6_isAhead) BB.pre
  have hown : s.vm.findClass RX6 = some m.cls := findClass_of_methodNamed BB.named
  have hlocks := BB.notSynchronized
  have hi_X6 : ∀ w ∈ u_ws RX6 TX6 22, w ∈ wsX6_isAhead := by decide +kernel
  have hw0 := hts (.fieldLink RX6 59 "FeatureClashesModel" "behind" "[I") (by decide +kernel)
  have hS : va_S A s.heap s.heap [] := va_S.rf
  have hl := lv_entry ([.ref (ad 0), .int x1, .int x2]) (n := 3) (Nat.le_of_ble_eq_true rfl)
  rw [lg_entry_eq]
  generalize (lg_sl ([.ref (ad 0), .int x1, .int x2]) ++ List.replicate (3 - (lg_sl ([.ref (ad 0), .int x1, .int x2])).length) Slot.unset).toArray = ls at hl ⊢
  have hl : lv_has ls 3 [(0, .ref (ad 0)), (1, .int x1), (2, .int x2)] := hl
  unfold f_X6_isAhead at h
  refine lv_aload_n hx hb dX6_isAhead_0 rfl (lv_at hl 0 rfl) ?_
  refine zw_get (C := RX6) (T := TX6) (M := 22) (v := .ref (ad 17)) hx hb hts hi_X6 hown hK hP kM_0 rfl 21 (by decide) hw0 rfl dX6_isAhead_1 ?_
  refine lv_iload_n hx hb dX6_isAhead_4 rfl (lv_at hl 1 rfl) ?_
  obtain ⟨hi1, h⟩ := h
  refine zw_iald hx hb hK hP kM_17 hi1 dX6_isAhead_5 ?_
  refine lv_iload_n hx hb dX6_isAhead_6 rfl (lv_at hl 2 rfl) ?_
  refine lv_ishr hx hb dX6_isAhead_7 ?_
  refine lv_iconst (v := 1) hx hb dX6_isAhead_8 (by decide) ?_
  refine lv_iand hx hb dX6_isAhead_9 ?_
  refine lv_iconst (v := 1) hx hb dX6_isAhead_10 (by decide) ?_
  refine lv_icmp_ne (tgt := 18) hx hb dX6_isAhead_11 (by decide) (fun c2 => ?_) (fun c2 => ?_)
  · have h := h.1 c2
    refine lv_iconst (v := 0) hx hb dX6_isAhead_18 (by decide) ?_
    exact W.zret (ty := .boolean) (v := 0) hx hb hr rfl (fun t ht hW => ⟨⟨0, μ, rfl, h, PW.to hK hN hP hD t ht hW⟩, hS.F ht⟩) hS.2.2 dX6_isAhead_19
  · have h := h.2 c2
    refine lv_iconst (v := 1) hx hb dX6_isAhead_14 (by decide) ?_
    refine lv_goto (tgt := 19) hx hb dX6_isAhead_15 (by decide) ?_
    exact W.zret (ty := .boolean) (v := 1) hx hb hr rfl (fun t ht hW => ⟨⟨1, μ, rfl, h, PW.to hK hN hP hD t ht hW⟩, hS.F ht⟩) hS.2.2 dX6_isAhead_19
set_option maxHeartbeats 4000000 in
set_option maxRecDepth 100000 in
theorem c_X6_aheads (l : Launch) (D : va_G) (cc : Nat → ClassId) (A : Nat → Prop) (ad : Nat → Nat) (rs : va_W)  (μ : Mem) (K : Int32 → Mem → Prop) (h : f_X6_aheads  μ K) : Met l yX6_aheads wsX6_aheads ({ frames := 2, cells := 0, slots := 0, locals := 44 }) (va_Pc [.ref (ad 0)] (PW shM 18 D cc A ad rs μ)) (va_Qi K (PW shM 18 D cc A ad rs) A) 0 0 A := by
  refine Met.ofW (cc := cX6_aheads) (maxL := 3) (ret := (some .int)) (by decide) rfl ?_
  intro p e s m args below meth c s₁ BB hml hv
  obtain ⟨rfl, hP, hK, hD, hN⟩ := hv
  have hx := BB.exec
  have hb := BB.bytes
  have hr := BB.returns
  have hts := atoms_spec (ws := wsX6_aheads) BB.pre
  have hown : s.vm.findClass RX6 = some m.cls := findClass_of_methodNamed BB.named
  have hlocks := BB.notSynchronized
  have hS : va_S A s.heap s.heap [] := va_S.rf
  have hl := lv_entry ([.ref (ad 0)]) (n := 3) (Nat.le_of_ble_eq_true rfl)
  rw [lg_entry_eq]
  generalize (lg_sl ([.ref (ad 0)]) ++ List.replicate (3 - (lg_sl ([.ref (ad 0)])).length) Slot.unset).toArray = ls at hl ⊢
  have hl : lv_has ls 3 [(0, .ref (ad 0))] := hl
  unfold f_X6_aheads at h
  refine (fun h => ?main) (h (fun b1 b2 μ => ∀ (H1 : Heap) (locs : List Loc) (ls : Array Slot), va_P D vwCl (wW shM 18 cc ad μ ++ rs) H1 → va_D A (wW shM 18 cc ad μ ++ rs) → va_S A s.heap H1 locs → lv_has ls 3 [(0, .ref (ad 0)), (1, .int b1), (2, .int b2)] → W p l e (headSpec wsX6_aheads ({ frames := 2, cells := 0, slots := 0, locals := 44 })).room s m ([.ref (ad 0)] : List Value).toArray below meth c H1 locs 0 0 (MQ below (va_Qi K (PW shM 18 D cc A ad rs) A) ([.ref (ad 0)] : List Value).toArray s 0 0 A) (F0 m 8 ls ([]))) (fun b2 z0 z1 μ => ∀ (H1 : Heap) (locs : List Loc) (ls : Array Slot), va_P D vwCl (wW shM 18 cc ad μ ++ rs) H1 → va_D A (wW shM 18 cc ad μ ++ rs) → va_S A s.heap H1 locs → lv_has ls 3 [(0, .ref (ad 0)), (2, .int b2)] → W p l e (headSpec wsX6_aheads ({ frames := 2, cells := 0, slots := 0, locals := 44 })).room s m ([.ref (ad 0)] : List Value).toArray below meth c H1 locs 0 0 (MQ below (va_Qi K (PW shM 18 D cc A ad rs) A) ([.ref (ad 0)] : List Value).toArray s 0 0 A) (F0 m 35 ls ([.int z0, .int z1]))) ?b8 ?b35)
  case main =>
      refine lv_aload_n hx hb dX6_aheads_0 rfl (lv_at hl 0 rfl) ?_
      refine zc_v (zc_runV (As := []) (rest := []) ⟨hx, hb, hml, hown, hts⟩ (c_X6_findBehind l D cc A ad rs  μ _ h) (cwV 0 hts gX6_aheads_X6_findBehind rfl rfl rfl (by decide +kernel) ⟨Nat.le_of_ble_eq_true rfl, Nat.le_of_ble_eq_true rfl⟩) kM_0 rfl hK hN hP hD rfl hl.1 rfl (Nat.le_of_ble_eq_true rfl) dX6_aheads_1 ⟨Nat.zero_le _, Nat.zero_le _⟩) hS (fun μ2 H locs h hP hD hS => ?_)
      refine lv_iconst (v := 0) hx hb dX6_aheads_4 (by decide) ?_
      refine lv_istore_n (lv' := [(1, .int 0), (0, .ref (ad 0))]) hx hb dX6_aheads_5 rfl hl (by decide) rfl (fun ls hl => ?_)
      refine lv_iconst (v := 0) hx hb dX6_aheads_6 (by decide) ?_
      refine lv_istore_n (lv' := [(2, .int 0), (1, .int 0), (0, .ref (ad 0))]) hx hb dX6_aheads_7 rfl hl (by decide) rfl (fun ls hl => ?_)
      exact h _ _ _ hP hD hS (lv_sub hl [2, 1, 0] rfl)
  case b8 =>
    intro b1 b2 μ h H locs ls hP hD hS hl
    refine lv_iload_n hx hb dX6_aheads_8 rfl (lv_at hl 2 rfl) ?_
    refine lv_bipush (v := 36) hx hb dX6_aheads_9 (by decide) ?_
    refine lv_icmp_ge (tgt := 43) hx hb dX6_aheads_11 (by decide) (fun c3 => ?_) (fun c3 => ?_)
    · have h := h.1 c3
      refine lv_iload_n hx hb dX6_aheads_43 rfl (lv_at hl 1 rfl) ?_
      exact W.iret (v := b1) hx hb hr (fun t ht hW => ⟨⟨b1, μ, rfl, h, PW.to hK hN hP hD t ht hW⟩, hS.F ht⟩) hS.2.2 dX6_aheads_44
    · have h := h.2 c3
      refine lv_iload_n hx hb dX6_aheads_14 rfl (lv_at hl 1 rfl) ?_
      refine lv_aload_n hx hb dX6_aheads_15 rfl (lv_at hl 0 rfl) ?_
      refine lv_iload_n hx hb dX6_aheads_16 rfl (lv_at hl 2 rfl) ?_
      refine lv_bipush (v := 6) hx hb dX6_aheads_17 (by decide) ?_
      refine lv_idiv hx hb dX6_aheads_19 (by decide) ?_
      refine lv_iload_n hx hb dX6_aheads_20 rfl (lv_at hl 2 rfl) ?_
      refine lv_bipush (v := 6) hx hb dX6_aheads_21 (by decide) ?_
      refine lv_irem hx hb dX6_aheads_23 (by decide) ?_
      refine zc_i (zc_runV (As := [.int (b2 / 6), .int (b2 - b2 / 6 * 6)]) (rest := [.int b1]) ⟨hx, hb, hml, hown, hts⟩ (c_X6_isAhead l D cc A ad rs (b2 / 6) (b2 - b2 / 6 * 6) μ _ h) (cwV 2 hts gX6_aheads_X6_isAhead rfl rfl rfl (by decide +kernel) ⟨Nat.le_of_ble_eq_true rfl, Nat.le_of_ble_eq_true rfl⟩) kM_0 rfl hK hN hP hD rfl hl.1 rfl (Nat.le_of_ble_eq_true rfl) dX6_aheads_24 ⟨Nat.zero_le _, Nat.zero_le _⟩) hS (fun r4 μ5 H locs h hP hD hS => ?_)
      refine lv_if_eq (tgt := 34) hx hb dX6_aheads_27 (by decide) (fun c6 => ?_) (fun c6 => ?_)
      · have h := h.1 c6
        refine lv_iconst (v := 0) hx hb dX6_aheads_34 (by decide) ?_
        exact h _ _ _ hP hD hS (lv_sub hl [0, 2] rfl)
      · have h := h.2 c6
        refine lv_iconst (v := 1) hx hb dX6_aheads_30 (by decide) ?_
        refine lv_goto (tgt := 35) hx hb dX6_aheads_31 (by decide) ?_
        exact h _ _ _ hP hD hS (lv_sub hl [0, 2] rfl)
  case b35 =>
    intro b2 z0 z1 μ h H locs ls hP hD hS hl
    refine lv_iadd hx hb dX6_aheads_35 ?_
    refine lv_topi (fun y7 ey7 => ?_)
    have h := h y7 ey7
    refine lv_istore_n (lv' := [(1, .int y7), (0, .ref (ad 0)), (2, .int b2)]) hx hb dX6_aheads_36 rfl hl (by decide) rfl (fun ls hl => ?_)
    obtain ⟨y8, ey8⟩ : ∃ y : Int32, y = b2 + 1 := ⟨_, rfl⟩
    have h := h y8 ey8
    refine lv_iinc (v := y8) (lv' := [(2, .int y8), (1, .int y7), (0, .ref (ad 0))]) hx hb dX6_aheads_37 hl (k := 2) rfl (by rw [ey8]; rfl) (by decide) rfl (fun ls hl => ?_)
    refine lv_goto (tgt := 8) hx hb dX6_aheads_40 (by decide) ?_
    exact h _ _ _ hP hD hS (lv_sub hl [2, 1, 0] rfl)
set_option maxHeartbeats 4000000 in
set_option maxRecDepth 100000 in
theorem c_X6_setBefore (l : Launch) (D : va_G) (cc : Nat → ClassId) (A : Nat → Prop) (ad : Nat → Nat) (rs : va_W) (x1 : Int32) (x2 : Int32) (μ : Mem) (K : Int32 → Mem → Prop) (h : f_X6_setBefore x1 x2 μ K) : Met l yX6_setBefore wsX6_setBefore ({ frames := 3, cells := 0, slots := 0, locals := 66 }) (va_Pc [.ref (ad 0), .int x1, .int x2] (PW shM 18 D cc A ad rs μ)) (va_Qi K (PW shM 18 D cc A ad rs) A) 0 0 A := by
  refine Met.ofW (cc := cX6_setBefore) (maxL := 3) (ret := (some .int)) (by decide) rfl ?_
  intro p e s m args below meth c s₁ BB hml hv
  obtain ⟨rfl, hP, hK, hD, hN⟩ := hv
  have hx := BB.exec
  have hb := BB.bytes
  have hr := BB.returns
  have hts := atoms_spec (ws := wsX6_setBefore) BB.pre
  have hown : s.vm.findClass RX6 = some m.cls := findClass_of_methodNamed BB.named
  have hlocks := BB.notSynchronized
  have hi_X6 : ∀ w ∈ u_ws RX6 TX6 22, w ∈ wsX6_setBefore := by decide +kernel
  have hw0 := hts (.fieldLink RX6 7 "FeatureClashesModel" "v" "[I") (by decide +kernel)
  have hS : va_S A s.heap s.heap [] := va_S.rf
  have hl := lv_entry ([.ref (ad 0), .int x1, .int x2]) (n := 3) (Nat.le_of_ble_eq_true rfl)
  rw [lg_entry_eq]
  generalize (lg_sl ([.ref (ad 0), .int x1, .int x2]) ++ List.replicate (3 - (lg_sl ([.ref (ad 0), .int x1, .int x2])).length) Slot.unset).toArray = ls at hl ⊢
  have hl : lv_has ls 3 [(0, .ref (ad 0)), (1, .int x1), (2, .int x2)] := hl
  unfold f_X6_setBefore at h
  refine lv_aload_n hx hb dX6_setBefore_0 rfl (lv_at hl 0 rfl) ?_
  refine lv_iload_n hx hb dX6_setBefore_1 rfl (lv_at hl 1 rfl) ?_
  refine lv_iload_n hx hb dX6_setBefore_2 rfl (lv_at hl 2 rfl) ?_
  refine zc_i (zc_runV (As := [.int x1, .int x2]) (rest := []) ⟨hx, hb, hml, hown, hts⟩ (c_X6_isPair l D cc A ad rs x1 x2 μ _ h) (cwV 2 hts gX6_setBefore_X6_isPair rfl rfl rfl (by decide +kernel) ⟨Nat.le_of_ble_eq_true rfl, Nat.le_of_ble_eq_true rfl⟩) kM_0 rfl hK hN hP hD rfl hl.1 rfl (Nat.le_of_ble_eq_true rfl) dX6_setBefore_3 ⟨Nat.zero_le _, Nat.zero_le _⟩) hS (fun r1 μ2 H locs h hP hD hS => ?_)
  refine lv_if_ne (tgt := 11) hx hb dX6_setBefore_6 (by decide) (fun c3 => ?_) (fun c3 => ?_)
  · have h := h.1 c3
    refine lv_aload_n hx hb dX6_setBefore_11 rfl (lv_at hl 0 rfl) ?_
    refine zc_v (zc_runV (As := []) (rest := []) ⟨hx, hb, hml, hown, hts⟩ (c_X6_findBehind l D cc A ad rs  μ2 _ h) (cwV 0 hts gX6_setBefore_X6_findBehind rfl rfl rfl (by decide +kernel) ⟨Nat.le_of_ble_eq_true rfl, Nat.le_of_ble_eq_true rfl⟩) kM_0 rfl hK hN hP hD rfl hl.1 rfl (Nat.le_of_ble_eq_true rfl) dX6_setBefore_12 ⟨Nat.zero_le _, Nat.zero_le _⟩) hS (fun μ5 H locs h hP hD hS => ?_)
    refine lv_aload_n hx hb dX6_setBefore_15 rfl (lv_at hl 0 rfl) ?_
    refine lv_iload_n hx hb dX6_setBefore_16 rfl (lv_at hl 2 rfl) ?_
    refine lv_iload_n hx hb dX6_setBefore_17 rfl (lv_at hl 1 rfl) ?_
    refine zc_i (zc_runV (As := [.int x2, .int x1]) (rest := []) ⟨hx, hb, hml, hown, hts⟩ (c_X6_isAhead l D cc A ad rs x2 x1 μ5 _ h) (cwV 2 hts gX6_setBefore_X6_isAhead rfl rfl rfl (by decide +kernel) ⟨Nat.le_of_ble_eq_true rfl, Nat.le_of_ble_eq_true rfl⟩) kM_0 rfl hK hN hP hD rfl hl.1 rfl (Nat.le_of_ble_eq_true rfl) dX6_setBefore_18 ⟨Nat.zero_le _, Nat.zero_le _⟩) hS (fun r6 μ7 H locs h hP hD hS => ?_)
    refine lv_if_eq (tgt := 27) hx hb dX6_setBefore_21 (by decide) (fun c8 => ?_) (fun c8 => ?_)
    · have h := h.1 c8
      refine lv_aload_n hx hb dX6_setBefore_27 rfl (lv_at hl 0 rfl) ?_
      refine zw_get (C := RX6) (T := TX6) (M := 22) (v := .ref (ad 1)) hx hb hts hi_X6 hown hK hP kM_0 rfl 0 (by decide) hw0 rfl dX6_setBefore_28 ?_
      refine lv_iload_n hx hb dX6_setBefore_31 rfl (lv_at hl 1 rfl) ?_
      refine lv_bipush (v := 33) hx hb dX6_setBefore_32 (by decide) ?_
      refine zc_i (zc_runS (As := [.int x1, .int 33]) (rest := [.ref (ad 1)]) ⟨hx, hb, hml, hown, hts⟩ (c_X6_at l D cc A ad rs x1 33 μ7 _ h) (va_cwS 2 hts gX6_setBefore_X6_at rfl rfl rfl (by decide +kernel) ⟨Nat.le_of_ble_eq_true rfl, Nat.le_of_ble_eq_true rfl⟩) hK hN hP hD rfl hl.1 rfl (Nat.le_of_ble_eq_true rfl) dX6_setBefore_34 ⟨Nat.zero_le _, Nat.zero_le _⟩) hS (fun r9 μ10 H locs h hP hD hS => ?_)
      refine lv_dup2_11 hx hb dX6_setBefore_37 rfl rfl ?_
      obtain ⟨hi11, h⟩ := h
      refine zw_iald hx hb hK hP kM_1 hi11 dX6_setBefore_38 ?_
      refine lv_iconst (v := 1) hx hb dX6_setBefore_39 (by decide) ?_
      refine lv_iload_n hx hb dX6_setBefore_40 rfl (lv_at hl 2 rfl) ?_
      refine lv_ishl hx hb dX6_setBefore_41 ?_
      refine lv_ior hx hb dX6_setBefore_42 ?_
      obtain ⟨hi12, h⟩ := h
      refine zw_iast hx hb hK hP hD hS kM_1 hi12 dX6_setBefore_43 (fun μ13 H locs eμ13 hP hD hS => ?_)
      have h := h μ13 eμ13
      refine lv_aload_n hx hb dX6_setBefore_44 rfl (lv_at hl 0 rfl) ?_
      refine zc_i (zc_runV (As := []) (rest := []) ⟨hx, hb, hml, hown, hts⟩ (c_X6_aheads l D cc A ad rs  μ13 _ h) (cwV 0 hts gX6_setBefore_X6_aheads rfl rfl rfl (by decide +kernel) ⟨Nat.le_of_ble_eq_true rfl, Nat.le_of_ble_eq_true rfl⟩) kM_0 rfl hK hN hP hD rfl hl.1 rfl (Nat.le_of_ble_eq_true rfl) dX6_setBefore_45 ⟨Nat.zero_le _, Nat.zero_le _⟩) hS (fun r14 μ15 H locs h hP hD hS => ?_)
      exact W.iret (v := r14) hx hb hr (fun t ht hW => ⟨⟨r14, μ15, rfl, h, PW.to hK hN hP hD t ht hW⟩, hS.F ht⟩) hS.2.2 dX6_setBefore_48
    · have h := h.2 c8
      refine lv_bipush (v := (-3)) hx hb dX6_setBefore_24 (by decide) ?_
      exact W.iret (v := (-3)) hx hb hr (fun t ht hW => ⟨⟨(-3), μ7, rfl, h, PW.to hK hN hP hD t ht hW⟩, hS.F ht⟩) hS.2.2 dX6_setBefore_26
  · have h := h.2 c3
    refine lv_iconst (v := (-1)) hx hb dX6_setBefore_9 (by decide) ?_
    exact W.iret (v := (-1)) hx hb hr (fun t ht hW => ⟨⟨(-1), μ2, rfl, h, PW.to hK hN hP hD t ht hW⟩, hS.F ht⟩) hS.2.2 dX6_setBefore_10
set_option maxHeartbeats 4000000 in
set_option maxRecDepth 100000 in
theorem c_X6_clearPriorities (l : Launch) (D : va_G) (cc : Nat → ClassId) (A : Nat → Prop) (ad : Nat → Nat) (rs : va_W)  (μ : Mem) (K : Int32 → Mem → Prop) (h : f_X6_clearPriorities  μ K) : Met l yX6_clearPriorities wsX6_clearPriorities ({ frames := 3, cells := 0, slots := 0, locals := 66 }) (va_Pc [.ref (ad 0)] (PW shM 18 D cc A ad rs μ)) (va_Qi K (PW shM 18 D cc A ad rs) A) 0 0 A := by
  refine Met.ofW (cc := cX6_clearPriorities) (maxL := 3) (ret := (some .int)) (by decide) rfl ?_
  intro p e s m args below meth c s₁ BB hml hv
  obtain ⟨rfl, hP, hK, hD, hN⟩ := hv
  have hx := BB.exec
  have hb := BB.bytes
  have hr := BB.returns
  have hts := atoms_spec (ws := wsX6_clearPriorities) BB.pre
  have hown : s.vm.findClass RX6 = some m.cls := findClass_of_methodNamed BB.named
  have hlocks := BB.notSynchronized
  have hi_X6 : ∀ w ∈ u_ws RX6 TX6 22, w ∈ wsX6_clearPriorities := by decide +kernel
  have hw0 := hts (.fieldLink RX6 7 "FeatureClashesModel" "v" "[I") (by decide +kernel)
  have hS : va_S A s.heap s.heap [] := va_S.rf
  have hl := lv_entry ([.ref (ad 0)]) (n := 3) (Nat.le_of_ble_eq_true rfl)
  rw [lg_entry_eq]
  generalize (lg_sl ([.ref (ad 0)]) ++ List.replicate (3 - (lg_sl ([.ref (ad 0)])).length) Slot.unset).toArray = ls at hl ⊢
  have hl : lv_has ls 3 [(0, .ref (ad 0))] := hl
  unfold f_X6_clearPriorities at h
  refine (fun h => ?main) (h (fun b1 b2 μ => ∀ (H1 : Heap) (locs : List Loc) (ls : Array Slot), va_P D vwCl (wW shM 18 cc ad μ ++ rs) H1 → va_D A (wW shM 18 cc ad μ ++ rs) → va_S A s.heap H1 locs → lv_has ls 3 [(0, .ref (ad 0)), (1, .int b1), (2, .int b2)] → W p l e (headSpec wsX6_clearPriorities ({ frames := 3, cells := 0, slots := 0, locals := 66 })).room s m ([.ref (ad 0)] : List Value).toArray below meth c H1 locs 0 0 (MQ below (va_Qi K (PW shM 18 D cc A ad rs) A) ([.ref (ad 0)] : List Value).toArray s 0 0 A) (F0 m 7 ls ([]))) ?b7)
  case main =>
      refine lv_aload_n hx hb dX6_clearPriorities_0 rfl (lv_at hl 0 rfl) ?_
      refine zc_i (zc_runV (As := []) (rest := []) ⟨hx, hb, hml, hown, hts⟩ (c_X6_aheads l D cc A ad rs  μ _ h) (cwV 0 hts gX6_clearPriorities_X6_aheads rfl rfl rfl (by decide +kernel) ⟨Nat.le_of_ble_eq_true rfl, Nat.le_of_ble_eq_true rfl⟩) kM_0 rfl hK hN hP hD rfl hl.1 rfl (Nat.le_of_ble_eq_true rfl) dX6_clearPriorities_1 ⟨Nat.zero_le _, Nat.zero_le _⟩) hS (fun r1 μ2 H locs h hP hD hS => ?_)
      refine lv_istore_n (lv' := [(1, .int r1), (0, .ref (ad 0))]) hx hb dX6_clearPriorities_4 rfl hl (by decide) rfl (fun ls hl => ?_)
      refine lv_iconst (v := 0) hx hb dX6_clearPriorities_5 (by decide) ?_
      refine lv_istore_n (lv' := [(2, .int 0), (1, .int r1), (0, .ref (ad 0))]) hx hb dX6_clearPriorities_6 rfl hl (by decide) rfl (fun ls hl => ?_)
      exact h _ _ _ hP hD hS (lv_sub hl [2, 1, 0] rfl)
  case b7 =>
    intro b1 b2 μ h H locs ls hP hD hS hl
    refine lv_iload_n hx hb dX6_clearPriorities_7 rfl (lv_at hl 2 rfl) ?_
    refine lv_aload_n hx hb dX6_clearPriorities_8 rfl (lv_at hl 0 rfl) ?_
    refine zw_get (C := RX6) (T := TX6) (M := 22) (v := .ref (ad 1)) hx hb hts hi_X6 hown hK hP kM_0 rfl 0 (by decide) hw0 rfl dX6_clearPriorities_9 ?_
    refine lv_bipush (v := 34) hx hb dX6_clearPriorities_12 (by decide) ?_
    obtain ⟨hi3, h⟩ := h
    refine zw_iald hx hb hK hP kM_1 hi3 dX6_clearPriorities_14 ?_
    refine lv_icmp_ge (tgt := 36) hx hb dX6_clearPriorities_15 (by decide) (fun c4 => ?_) (fun c4 => ?_)
    · have h := h.1 c4
      refine lv_iload_n hx hb dX6_clearPriorities_36 rfl (lv_at hl 1 rfl) ?_
      exact W.iret (v := b1) hx hb hr (fun t ht hW => ⟨⟨b1, μ, rfl, h, PW.to hK hN hP hD t ht hW⟩, hS.F ht⟩) hS.2.2 dX6_clearPriorities_37
    · have h := h.2 c4
      refine lv_aload_n hx hb dX6_clearPriorities_18 rfl (lv_at hl 0 rfl) ?_
      refine zw_get (C := RX6) (T := TX6) (M := 22) (v := .ref (ad 1)) hx hb hts hi_X6 hown hK hP kM_0 rfl 0 (by decide) hw0 rfl dX6_clearPriorities_19 ?_
      refine lv_iload_n hx hb dX6_clearPriorities_22 rfl (lv_at hl 2 rfl) ?_
      refine lv_bipush (v := 33) hx hb dX6_clearPriorities_23 (by decide) ?_
      refine zc_i (zc_runS (As := [.int b2, .int 33]) (rest := [.ref (ad 1)]) ⟨hx, hb, hml, hown, hts⟩ (c_X6_at l D cc A ad rs b2 33 μ _ h) (va_cwS 2 hts gX6_clearPriorities_X6_at rfl rfl rfl (by decide +kernel) ⟨Nat.le_of_ble_eq_true rfl, Nat.le_of_ble_eq_true rfl⟩) hK hN hP hD rfl hl.1 rfl (Nat.le_of_ble_eq_true rfl) dX6_clearPriorities_25 ⟨Nat.zero_le _, Nat.zero_le _⟩) hS (fun r5 μ6 H locs h hP hD hS => ?_)
      refine lv_iconst (v := 0) hx hb dX6_clearPriorities_28 (by decide) ?_
      obtain ⟨hi7, h⟩ := h
      refine zw_iast hx hb hK hP hD hS kM_1 hi7 dX6_clearPriorities_29 (fun μ8 H locs eμ8 hP hD hS => ?_)
      have h := h μ8 eμ8
      obtain ⟨y9, ey9⟩ : ∃ y : Int32, y = b2 + 1 := ⟨_, rfl⟩
      have h := h y9 ey9
      refine lv_iinc (v := y9) (lv' := [(2, .int y9), (0, .ref (ad 0)), (1, .int b1)]) hx hb dX6_clearPriorities_30 hl (k := 2) rfl (by rw [ey9]; rfl) (by decide) rfl (fun ls hl => ?_)
      refine lv_goto (tgt := 7) hx hb dX6_clearPriorities_33 (by decide) ?_
      exact h _ _ _ hP hD hS (lv_sub hl [1, 2, 0] rfl)
set_option maxHeartbeats 4000000 in
set_option maxRecDepth 100000 in
theorem c_X6_isBefore (l : Launch) (D : va_G) (cc : Nat → ClassId) (A : Nat → Prop) (ad : Nat → Nat) (rs : va_W) (x1 : Int32) (x2 : Int32) (μ : Mem) (K : Int32 → Mem → Prop) (h : f_X6_isBefore x1 x2 μ K) : Met l yX6_isBefore wsX6_isBefore ({ frames := 2, cells := 0, slots := 0, locals := 44 }) (va_Pc [.ref (ad 0), .int x1, .int x2] (PW shM 18 D cc A ad rs μ)) (va_Qi K (PW shM 18 D cc A ad rs) A) 0 0 A := by
  refine Met.ofW (cc := cX6_isBefore) (maxL := 3) (ret := (some .int)) (by decide) rfl ?_
  intro p e s m args below meth c s₁ BB hml hv
  obtain ⟨rfl, hP, hK, hD, hN⟩ := hv
  have hx := BB.exec
  have hb := BB.bytes
  have hr := BB.returns
  have hts := atoms_spec (ws := wsX6_isBefore) BB.pre
  have hown : s.vm.findClass RX6 = some m.cls := findClass_of_methodNamed BB.named
  have hlocks := BB.notSynchronized
  have hS : va_S A s.heap s.heap [] := va_S.rf
  have hl := lv_entry ([.ref (ad 0), .int x1, .int x2]) (n := 3) (Nat.le_of_ble_eq_true rfl)
  rw [lg_entry_eq]
  generalize (lg_sl ([.ref (ad 0), .int x1, .int x2]) ++ List.replicate (3 - (lg_sl ([.ref (ad 0), .int x1, .int x2])).length) Slot.unset).toArray = ls at hl ⊢
  have hl : lv_has ls 3 [(0, .ref (ad 0)), (1, .int x1), (2, .int x2)] := hl
  unfold f_X6_isBefore at h
  refine lv_aload_n hx hb dX6_isBefore_0 rfl (lv_at hl 0 rfl) ?_
  refine lv_iload_n hx hb dX6_isBefore_1 rfl (lv_at hl 1 rfl) ?_
  refine zc_i (zc_runV (As := [.int x1]) (rest := []) ⟨hx, hb, hml, hown, hts⟩ (c_X6_isFeature l D cc A ad rs x1 μ _ h) (cwV 1 hts gX6_isBefore_X6_isFeature rfl rfl rfl (by decide +kernel) ⟨Nat.le_of_ble_eq_true rfl, Nat.le_of_ble_eq_true rfl⟩) kM_0 rfl hK hN hP hD rfl hl.1 rfl (Nat.le_of_ble_eq_true rfl) dX6_isBefore_2 ⟨Nat.zero_le _, Nat.zero_le _⟩) hS (fun r1 μ2 H locs h hP hD hS => ?_)
  refine lv_if_eq (tgt := 16) hx hb dX6_isBefore_5 (by decide) (fun c3 => ?_) (fun c3 => ?_)
  · have h := h.1 c3
    refine lv_iconst (v := (-1)) hx hb dX6_isBefore_16 (by decide) ?_
    exact W.iret (v := (-1)) hx hb hr (fun t ht hW => ⟨⟨(-1), μ2, rfl, h, PW.to hK hN hP hD t ht hW⟩, hS.F ht⟩) hS.2.2 dX6_isBefore_17
  · have h := h.2 c3
    refine lv_aload_n hx hb dX6_isBefore_8 rfl (lv_at hl 0 rfl) ?_
    refine lv_iload_n hx hb dX6_isBefore_9 rfl (lv_at hl 2 rfl) ?_
    refine zc_i (zc_runV (As := [.int x2]) (rest := []) ⟨hx, hb, hml, hown, hts⟩ (c_X6_isFeature l D cc A ad rs x2 μ2 _ h) (cwV 1 hts gX6_isBefore_X6_isFeature rfl rfl rfl (by decide +kernel) ⟨Nat.le_of_ble_eq_true rfl, Nat.le_of_ble_eq_true rfl⟩) kM_0 rfl hK hN hP hD rfl hl.1 rfl (Nat.le_of_ble_eq_true rfl) dX6_isBefore_10 ⟨Nat.zero_le _, Nat.zero_le _⟩) hS (fun r4 μ5 H locs h hP hD hS => ?_)
    refine lv_if_ne (tgt := 18) hx hb dX6_isBefore_13 (by decide) (fun c6 => ?_) (fun c6 => ?_)
    · have h := h.1 c6
      refine lv_aload_n hx hb dX6_isBefore_18 rfl (lv_at hl 0 rfl) ?_
      refine zc_v (zc_runV (As := []) (rest := []) ⟨hx, hb, hml, hown, hts⟩ (c_X6_findBehind l D cc A ad rs  μ5 _ h) (cwV 0 hts gX6_isBefore_X6_findBehind rfl rfl rfl (by decide +kernel) ⟨Nat.le_of_ble_eq_true rfl, Nat.le_of_ble_eq_true rfl⟩) kM_0 rfl hK hN hP hD rfl hl.1 rfl (Nat.le_of_ble_eq_true rfl) dX6_isBefore_19 ⟨Nat.zero_le _, Nat.zero_le _⟩) hS (fun μ8 H locs h hP hD hS => ?_)
      refine lv_aload_n hx hb dX6_isBefore_22 rfl (lv_at hl 0 rfl) ?_
      refine lv_iload_n hx hb dX6_isBefore_23 rfl (lv_at hl 1 rfl) ?_
      refine lv_iload_n hx hb dX6_isBefore_24 rfl (lv_at hl 2 rfl) ?_
      refine zc_i (zc_runV (As := [.int x1, .int x2]) (rest := []) ⟨hx, hb, hml, hown, hts⟩ (c_X6_isAhead l D cc A ad rs x1 x2 μ8 _ h) (cwV 2 hts gX6_isBefore_X6_isAhead rfl rfl rfl (by decide +kernel) ⟨Nat.le_of_ble_eq_true rfl, Nat.le_of_ble_eq_true rfl⟩) kM_0 rfl hK hN hP hD rfl hl.1 rfl (Nat.le_of_ble_eq_true rfl) dX6_isBefore_25 ⟨Nat.zero_le _, Nat.zero_le _⟩) hS (fun r9 μ10 H locs h hP hD hS => ?_)
      refine lv_if_eq (tgt := 35) hx hb dX6_isBefore_28 (by decide) (fun c11 => ?_) (fun c11 => ?_)
      · have h := h.1 c11
        refine lv_iconst (v := 0) hx hb dX6_isBefore_35 (by decide) ?_
        exact W.iret (v := 0) hx hb hr (fun t ht hW => ⟨⟨0, μ10, rfl, h, PW.to hK hN hP hD t ht hW⟩, hS.F ht⟩) hS.2.2 dX6_isBefore_36
      · have h := h.2 c11
        refine lv_iconst (v := 1) hx hb dX6_isBefore_31 (by decide) ?_
        refine lv_goto (tgt := 36) hx hb dX6_isBefore_32 (by decide) ?_
        exact W.iret (v := 1) hx hb hr (fun t ht hW => ⟨⟨1, μ10, rfl, h, PW.to hK hN hP hD t ht hW⟩, hS.F ht⟩) hS.2.2 dX6_isBefore_36
    · have h := h.2 c6
      refine lv_iconst (v := (-1)) hx hb dX6_isBefore_16 (by decide) ?_
      exact W.iret (v := (-1)) hx hb hr (fun t ht hW => ⟨⟨(-1), μ5, rfl, h, PW.to hK hN hP hD t ht hW⟩, hS.F ht⟩) hS.2.2 dX6_isBefore_17
set_option maxHeartbeats 4000000 in
set_option maxRecDepth 100000 in
theorem c_X6_isAllowed (l : Launch) (D : va_G) (cc : Nat → ClassId) (A : Nat → Prop) (ad : Nat → Nat) (rs : va_W)  (μ : Mem) (K : Int32 → Mem → Prop) (h : f_X6_isAllowed  μ K) : Met l yX6_isAllowed wsX6_isAllowed ({ frames := 1, cells := 0, slots := 0, locals := 22 }) (va_Pc [.ref (ad 0)] (PW shM 18 D cc A ad rs μ)) (va_Qi K (PW shM 18 D cc A ad rs) A) 0 0 A := by
  refine Met.ofW (cc := cX6_isAllowed) (maxL := 4) (ret := (some .boolean)) (by decide) rfl ?_
  intro p e s m args below meth c s₁ BB hml hv
  obtain ⟨rfl, hP, hK, hD, hN⟩ := hv
  have hx := BB.exec
  have hb := BB.bytes
  have hr := BB.returns
  have hts := atoms_spec (ws := wsX6_isAllowed) BB.pre
  have hown : s.vm.findClass RX6 = some m.cls := findClass_of_methodNamed BB.named
  have hlocks := BB.notSynchronized
  have hi_X6 : ∀ w ∈ u_ws RX6 TX6 22, w ∈ wsX6_isAllowed := by decide +kernel
  have hw0 := hts (.fieldLink RX6 162 "FeatureClashesModel" "thoseMany" "I") (by decide +kernel)
  have hw1 := hts (.fieldLink RX6 53 "FeatureClashesModel" "order" "[I") (by decide +kernel)
  have hS : va_S A s.heap s.heap [] := va_S.rf
  have hl := lv_entry ([.ref (ad 0)]) (n := 4) (Nat.le_of_ble_eq_true rfl)
  rw [lg_entry_eq]
  generalize (lg_sl ([.ref (ad 0)]) ++ List.replicate (4 - (lg_sl ([.ref (ad 0)])).length) Slot.unset).toArray = ls at hl ⊢
  have hl : lv_has ls 4 [(0, .ref (ad 0))] := hl
  unfold f_X6_isAllowed at h
  refine (fun h => ?main) (h (fun b1 b2 μ => ∀ (H1 : Heap) (locs : List Loc) (ls : Array Slot), va_P D vwCl (wW shM 18 cc ad μ ++ rs) H1 → va_D A (wW shM 18 cc ad μ ++ rs) → va_S A s.heap H1 locs → lv_has ls 4 [(0, .ref (ad 0)), (1, .int b1), (2, .int b2)] → W p l e (headSpec wsX6_isAllowed ({ frames := 1, cells := 0, slots := 0, locals := 22 })).room s m ([.ref (ad 0)] : List Value).toArray below meth c H1 locs 0 0 (MQ below (va_Qi K (PW shM 18 D cc A ad rs) A) ([.ref (ad 0)] : List Value).toArray s 0 0 A) (F0 m 4 ls ([]))) (fun b1 b2 b3 μ => ∀ (H1 : Heap) (locs : List Loc) (ls : Array Slot), va_P D vwCl (wW shM 18 cc ad μ ++ rs) H1 → va_D A (wW shM 18 cc ad μ ++ rs) → va_S A s.heap H1 locs → lv_has ls 4 [(0, .ref (ad 0)), (1, .int b1), (2, .int b2), (3, .int b3)] → W p l e (headSpec wsX6_isAllowed ({ frames := 1, cells := 0, slots := 0, locals := 22 })).room s m ([.ref (ad 0)] : List Value).toArray below meth c H1 locs 0 0 (MQ below (va_Qi K (PW shM 18 D cc A ad rs) A) ([.ref (ad 0)] : List Value).toArray s 0 0 A) (F0 m 14 ls ([]))) (fun b2 b3 μ => ∀ (H1 : Heap) (locs : List Loc) (ls : Array Slot), va_P D vwCl (wW shM 18 cc ad μ ++ rs) H1 → va_D A (wW shM 18 cc ad μ ++ rs) → va_S A s.heap H1 locs → lv_has ls 4 [(0, .ref (ad 0)), (2, .int b2), (3, .int b3)] → W p l e (headSpec wsX6_isAllowed ({ frames := 1, cells := 0, slots := 0, locals := 22 })).room s m ([.ref (ad 0)] : List Value).toArray below meth c H1 locs 0 0 (MQ below (va_Qi K (PW shM 18 D cc A ad rs) A) ([.ref (ad 0)] : List Value).toArray s 0 0 A) (F0 m 46 ls ([]))) (fun b2 b3 z0 μ => ∀ (H1 : Heap) (locs : List Loc) (ls : Array Slot), va_P D vwCl (wW shM 18 cc ad μ ++ rs) H1 → va_D A (wW shM 18 cc ad μ ++ rs) → va_S A s.heap H1 locs → lv_has ls 4 [(0, .ref (ad 0)), (2, .int b2), (3, .int b3)] → W p l e (headSpec wsX6_isAllowed ({ frames := 1, cells := 0, slots := 0, locals := 22 })).room s m ([.ref (ad 0)] : List Value).toArray below meth c H1 locs 0 0 (MQ below (va_Qi K (PW shM 18 D cc A ad rs) A) ([.ref (ad 0)] : List Value).toArray s 0 0 A) (F0 m 47 ls ([.int z0]))) ?b4 ?b14 ?b46 ?b47)
  case main =>
      refine lv_iconst (v := 1) hx hb dX6_isAllowed_0 (by decide) ?_
      refine lv_istore_n (lv' := [(1, .int 1), (0, .ref (ad 0))]) hx hb dX6_isAllowed_1 rfl hl (by decide) rfl (fun ls hl => ?_)
      refine lv_iconst (v := 0) hx hb dX6_isAllowed_2 (by decide) ?_
      refine lv_istore_n (lv' := [(2, .int 0), (1, .int 1), (0, .ref (ad 0))]) hx hb dX6_isAllowed_3 rfl hl (by decide) rfl (fun ls hl => ?_)
      exact h _ _ _ hP hD hS (lv_sub hl [2, 1, 0] rfl)
  case b4 =>
    intro b1 b2 μ h H locs ls hP hD hS hl
    refine lv_iload_n hx hb dX6_isAllowed_4 rfl (lv_at hl 2 rfl) ?_
    refine lv_aload_n hx hb dX6_isAllowed_5 rfl (lv_at hl 0 rfl) ?_
    refine zw_get (C := RX6) (T := TX6) (M := 22) (v := .int (μ.1 0 18)) hx hb hts hi_X6 hown hK hP kM_0 rfl 18 (by decide) hw0 rfl dX6_isAllowed_6 ?_
    refine lv_icmp_ge (tgt := 60) hx hb dX6_isAllowed_9 (by decide) (fun c1 => ?_) (fun c1 => ?_)
    · have h := h.1 c1
      refine lv_iload_n hx hb dX6_isAllowed_60 rfl (lv_at hl 1 rfl) ?_
      obtain ⟨hz, h⟩ := h
      exact W.zret (ty := .boolean) (v := b1) hx hb hr hz (fun t ht hW => ⟨⟨b1, μ, rfl, h, PW.to hK hN hP hD t ht hW⟩, hS.F ht⟩) hS.2.2 dX6_isAllowed_61
    · have h := h.2 c1
      refine lv_iconst (v := 0) hx hb dX6_isAllowed_12 (by decide) ?_
      refine lv_istore_n (lv' := [(3, .int 0), (0, .ref (ad 0)), (1, .int b1), (2, .int b2)]) hx hb dX6_isAllowed_13 rfl hl (by decide) rfl (fun ls hl => ?_)
      exact h _ _ _ hP hD hS (lv_sub hl [1, 2, 3, 0] rfl)
  case b14 =>
    intro b1 b2 b3 μ h H locs ls hP hD hS hl
    refine lv_iload_n hx hb dX6_isAllowed_14 rfl (lv_at hl 3 rfl) ?_
    refine lv_iload_n hx hb dX6_isAllowed_15 rfl (lv_at hl 2 rfl) ?_
    refine lv_icmp_ge (tgt := 54) hx hb dX6_isAllowed_16 (by decide) (fun c2 => ?_) (fun c2 => ?_)
    · have h := h.1 c2
      obtain ⟨y3, ey3⟩ : ∃ y : Int32, y = b2 + 1 := ⟨_, rfl⟩
      have h := h y3 ey3
      refine lv_iinc (v := y3) (lv' := [(2, .int y3), (0, .ref (ad 0)), (1, .int b1), (3, .int b3)]) hx hb dX6_isAllowed_54 hl (k := 2) rfl (by rw [ey3]; rfl) (by decide) rfl (fun ls hl => ?_)
      refine lv_goto (tgt := 4) hx hb dX6_isAllowed_57 (by decide) ?_
      exact h _ _ _ hP hD hS (lv_sub hl [1, 2, 0] rfl)
    · have h := h.2 c2
      refine lv_iload_n hx hb dX6_isAllowed_19 rfl (lv_at hl 1 rfl) ?_
      refine lv_if_eq (tgt := 46) hx hb dX6_isAllowed_20 (by decide) (fun c4 => ?_) (fun c4 => ?_)
      · have h := h.1 c4
        exact h _ _ _ hP hD hS (lv_sub hl [0, 2, 3] rfl)
      · have h := h.2 c4
        refine lv_aload_n hx hb dX6_isAllowed_23 rfl (lv_at hl 0 rfl) ?_
        refine lv_aload_n hx hb dX6_isAllowed_24 rfl (lv_at hl 0 rfl) ?_
        refine zw_get (C := RX6) (T := TX6) (M := 22) (v := .ref (ad 15)) hx hb hts hi_X6 hown hK hP kM_0 rfl 19 (by decide) hw1 rfl dX6_isAllowed_25 ?_
        refine lv_iload_n hx hb dX6_isAllowed_28 rfl (lv_at hl 2 rfl) ?_
        obtain ⟨hi5, h⟩ := h
        refine zw_iald hx hb hK hP kM_15 hi5 dX6_isAllowed_29 ?_
        refine lv_aload_n hx hb dX6_isAllowed_30 rfl (lv_at hl 0 rfl) ?_
        refine zw_get (C := RX6) (T := TX6) (M := 22) (v := .ref (ad 15)) hx hb hts hi_X6 hown hK hP kM_0 rfl 19 (by decide) hw1 rfl dX6_isAllowed_31 ?_
        refine lv_iload_n hx hb dX6_isAllowed_34 rfl (lv_at hl 3 rfl) ?_
        obtain ⟨hi6, h⟩ := h
        refine zw_iald hx hb hK hP kM_15 hi6 dX6_isAllowed_35 ?_
        refine zc_i (zc_runV (As := [.int (μ.1 15 (b2 : Int32).toNatClampNeg), .int (μ.1 15 (b3 : Int32).toNatClampNeg)]) (rest := []) ⟨hx, hb, hml, hown, hts⟩ (c_X6_isAhead l D cc A ad rs (μ.1 15 (b2 : Int32).toNatClampNeg) (μ.1 15 (b3 : Int32).toNatClampNeg) μ _ h) (cwV 2 hts gX6_isAllowed_X6_isAhead rfl rfl rfl (by decide +kernel) ⟨Nat.le_of_ble_eq_true rfl, Nat.le_of_ble_eq_true rfl⟩) kM_0 rfl hK hN hP hD rfl hl.1 rfl (Nat.le_of_ble_eq_true rfl) dX6_isAllowed_36 ⟨Nat.zero_le _, Nat.zero_le _⟩) hS (fun r7 μ8 H locs h hP hD hS => ?_)
        refine lv_if_ne (tgt := 46) hx hb dX6_isAllowed_39 (by decide) (fun c9 => ?_) (fun c9 => ?_)
        · have h := h.1 c9
          exact h _ _ _ hP hD hS (lv_sub hl [0, 2, 3] rfl)
        · have h := h.2 c9
          refine lv_iconst (v := 1) hx hb dX6_isAllowed_42 (by decide) ?_
          refine lv_goto (tgt := 47) hx hb dX6_isAllowed_43 (by decide) ?_
          exact h _ _ _ hP hD hS (lv_sub hl [0, 2, 3] rfl)
  case b46 =>
    intro b2 b3 μ h H locs ls hP hD hS hl
    refine lv_iconst (v := 0) hx hb dX6_isAllowed_46 (by decide) ?_
    exact h _ _ _ hP hD hS (lv_sub hl [0, 1, 2] rfl)
  case b47 =>
    intro b2 b3 z0 μ h H locs ls hP hD hS hl
    refine lv_istore_n (lv' := [(1, .int z0), (0, .ref (ad 0)), (2, .int b2), (3, .int b3)]) hx hb dX6_isAllowed_47 rfl hl (by decide) rfl (fun ls hl => ?_)
    obtain ⟨y10, ey10⟩ : ∃ y : Int32, y = b3 + 1 := ⟨_, rfl⟩
    have h := h y10 ey10
    refine lv_iinc (v := y10) (lv' := [(3, .int y10), (1, .int z0), (0, .ref (ad 0)), (2, .int b2)]) hx hb dX6_isAllowed_48 hl (k := 3) rfl (by rw [ey10]; rfl) (by decide) rfl (fun ls hl => ?_)
    refine lv_goto (tgt := 14) hx hb dX6_isAllowed_51 (by decide) ?_
    exact h _ _ _ hP hD hS (lv_sub hl [2, 1, 3, 0] rfl)
set_option maxHeartbeats 4000000 in
set_option maxRecDepth 100000 in
theorem c_X6_ordersNow (l : Launch) (D : va_G) (cc : Nat → ClassId) (A : Nat → Prop) (ad : Nat → Nat) (rs : va_W)  (μ : Mem) (K : Int32 → Mem → Prop) (h : f_X6_ordersNow  μ K) : Met l yX6_ordersNow wsX6_ordersNow ({ frames := 3, cells := 0, slots := 0, locals := 64 }) (va_Pc [.ref (ad 0)] (PW shM 18 D cc A ad rs μ)) (va_Qi K (PW shM 18 D cc A ad rs) A) 0 0 A := by
  refine Met.ofW (cc := cX6_ordersNow) (maxL := 4) (ret := (some .int)) (by decide) rfl ?_
  intro p e s m args below meth c s₁ BB hml hv
  obtain ⟨rfl, hP, hK, hD, hN⟩ := hv
  have hx := BB.exec
  have hb := BB.bytes
  have hr := BB.returns
  have hts := atoms_spec (ws := wsX6_ordersNow) BB.pre
  have hown : s.vm.findClass RX6 = some m.cls := findClass_of_methodNamed BB.named
  have hlocks := BB.notSynchronized
  have hS : va_S A s.heap s.heap [] := va_S.rf
  have hl := lv_entry ([.ref (ad 0)]) (n := 4) (Nat.le_of_ble_eq_true rfl)
  rw [lg_entry_eq]
  generalize (lg_sl ([.ref (ad 0)]) ++ List.replicate (4 - (lg_sl ([.ref (ad 0)])).length) Slot.unset).toArray = ls at hl ⊢
  have hl : lv_has ls 4 [(0, .ref (ad 0))] := hl
  unfold f_X6_ordersNow at h
  refine (fun h => ?main) (h (fun b1 b2 b3 μ => ∀ (H1 : Heap) (locs : List Loc) (ls : Array Slot), va_P D vwCl (wW shM 18 cc ad μ ++ rs) H1 → va_D A (wW shM 18 cc ad μ ++ rs) → va_S A s.heap H1 locs → lv_has ls 4 [(0, .ref (ad 0)), (1, .int b1), (2, .int b2), (3, .int b3)] → W p l e (headSpec wsX6_ordersNow ({ frames := 3, cells := 0, slots := 0, locals := 64 })).room s m ([.ref (ad 0)] : List Value).toArray below meth c H1 locs 0 0 (MQ below (va_Qi K (PW shM 18 D cc A ad rs) A) ([.ref (ad 0)] : List Value).toArray s 0 0 A) (F0 m 13 ls ([]))) (fun b1 b3 z0 z1 μ => ∀ (H1 : Heap) (locs : List Loc) (ls : Array Slot), va_P D vwCl (wW shM 18 cc ad μ ++ rs) H1 → va_D A (wW shM 18 cc ad μ ++ rs) → va_S A s.heap H1 locs → lv_has ls 4 [(0, .ref (ad 0)), (1, .int b1), (3, .int b3)] → W p l e (headSpec wsX6_ordersNow ({ frames := 3, cells := 0, slots := 0, locals := 64 })).room s m ([.ref (ad 0)] : List Value).toArray below meth c H1 locs 0 0 (MQ below (va_Qi K (PW shM 18 D cc A ad rs) A) ([.ref (ad 0)] : List Value).toArray s 0 0 A) (F0 m 36 ls ([.int z0, .int z1]))) ?b13 ?b36)
  case main =>
      refine lv_aload_n hx hb dX6_ordersNow_0 rfl (lv_at hl 0 rfl) ?_
      refine zc_v (zc_runV (As := []) (rest := []) ⟨hx, hb, hml, hown, hts⟩ (c_X6_findBehind l D cc A ad rs  μ _ h) (cwV 0 hts gX6_ordersNow_X6_findBehind rfl rfl rfl (by decide +kernel) ⟨Nat.le_of_ble_eq_true rfl, Nat.le_of_ble_eq_true rfl⟩) kM_0 rfl hK hN hP hD rfl hl.1 rfl (Nat.le_of_ble_eq_true rfl) dX6_ordersNow_1 ⟨Nat.zero_le _, Nat.zero_le _⟩) hS (fun μ2 H locs h hP hD hS => ?_)
      refine lv_aload_n hx hb dX6_ordersNow_4 rfl (lv_at hl 0 rfl) ?_
      refine zc_i (zc_runV (As := []) (rest := []) ⟨hx, hb, hml, hown, hts⟩ (c_X6_findThose l D cc A ad rs  μ2 _ h) (cwV 0 hts gX6_ordersNow_X6_findThose rfl rfl rfl (by decide +kernel) ⟨Nat.le_of_ble_eq_true rfl, Nat.le_of_ble_eq_true rfl⟩) kM_0 rfl hK hN hP hD rfl hl.1 rfl (Nat.le_of_ble_eq_true rfl) dX6_ordersNow_5 ⟨Nat.zero_le _, Nat.zero_le _⟩) hS (fun r3 μ4 H locs h hP hD hS => ?_)
      refine lv_istore_n (lv' := [(1, .int r3), (0, .ref (ad 0))]) hx hb dX6_ordersNow_8 rfl hl (by decide) rfl (fun ls hl => ?_)
      refine lv_iconst (v := 0) hx hb dX6_ordersNow_9 (by decide) ?_
      refine lv_istore_n (lv' := [(2, .int 0), (1, .int r3), (0, .ref (ad 0))]) hx hb dX6_ordersNow_10 rfl hl (by decide) rfl (fun ls hl => ?_)
      refine lv_iconst (v := 0) hx hb dX6_ordersNow_11 (by decide) ?_
      refine lv_istore_n (lv' := [(3, .int 0), (2, .int 0), (1, .int r3), (0, .ref (ad 0))]) hx hb dX6_ordersNow_12 rfl hl (by decide) rfl (fun ls hl => ?_)
      exact h _ _ _ hP hD hS (lv_sub hl [3, 2, 1, 0] rfl)
  case b13 =>
    intro b1 b2 b3 μ h H locs ls hP hD hS hl
    refine lv_iload_n hx hb dX6_ordersNow_13 rfl (lv_at hl 3 rfl) ?_
    refine lv_iload_n hx hb dX6_ordersNow_14 rfl (lv_at hl 1 rfl) ?_
    refine lv_icmp_ge (tgt := 44) hx hb dX6_ordersNow_15 (by decide) (fun c5 => ?_) (fun c5 => ?_)
    · have h := h.1 c5
      refine lv_iload_n hx hb dX6_ordersNow_44 rfl (lv_at hl 2 rfl) ?_
      exact W.iret (v := b2) hx hb hr (fun t ht hW => ⟨⟨b2, μ, rfl, h, PW.to hK hN hP hD t ht hW⟩, hS.F ht⟩) hS.2.2 dX6_ordersNow_45
    · have h := h.2 c5
      refine lv_aload_n hx hb dX6_ordersNow_18 rfl (lv_at hl 0 rfl) ?_
      refine lv_iload_n hx hb dX6_ordersNow_19 rfl (lv_at hl 3 rfl) ?_
      refine zc_v (zc_runV (As := [.int b3]) (rest := []) ⟨hx, hb, hml, hown, hts⟩ (c_X6_findOrder l D cc A ad rs b3 μ _ h) (cwV 1 hts gX6_ordersNow_X6_findOrder rfl rfl rfl (by decide +kernel) ⟨Nat.le_of_ble_eq_true rfl, Nat.le_of_ble_eq_true rfl⟩) kM_0 rfl hK hN hP hD rfl hl.1 rfl (Nat.le_of_ble_eq_true rfl) dX6_ordersNow_20 ⟨Nat.zero_le _, Nat.zero_le _⟩) hS (fun μ7 H locs h hP hD hS => ?_)
      refine lv_iload_n hx hb dX6_ordersNow_23 rfl (lv_at hl 2 rfl) ?_
      refine lv_aload_n hx hb dX6_ordersNow_24 rfl (lv_at hl 0 rfl) ?_
      refine zc_i (zc_runV (As := []) (rest := [.int b2]) ⟨hx, hb, hml, hown, hts⟩ (c_X6_isAllowed l D cc A ad rs  μ7 _ h) (cwV 0 hts gX6_ordersNow_X6_isAllowed rfl rfl rfl (by decide +kernel) ⟨Nat.le_of_ble_eq_true rfl, Nat.le_of_ble_eq_true rfl⟩) kM_0 rfl hK hN hP hD rfl hl.1 rfl (Nat.le_of_ble_eq_true rfl) dX6_ordersNow_25 ⟨Nat.zero_le _, Nat.zero_le _⟩) hS (fun r8 μ9 H locs h hP hD hS => ?_)
      refine lv_if_eq (tgt := 35) hx hb dX6_ordersNow_28 (by decide) (fun c10 => ?_) (fun c10 => ?_)
      · have h := h.1 c10
        refine lv_iconst (v := 0) hx hb dX6_ordersNow_35 (by decide) ?_
        exact h _ _ _ hP hD hS (lv_sub hl [0, 1, 3] rfl)
      · have h := h.2 c10
        refine lv_iconst (v := 1) hx hb dX6_ordersNow_31 (by decide) ?_
        refine lv_goto (tgt := 36) hx hb dX6_ordersNow_32 (by decide) ?_
        exact h _ _ _ hP hD hS (lv_sub hl [0, 1, 3] rfl)
  case b36 =>
    intro b1 b3 z0 z1 μ h H locs ls hP hD hS hl
    refine lv_iadd hx hb dX6_ordersNow_36 ?_
    refine lv_topi (fun y11 ey11 => ?_)
    have h := h y11 ey11
    refine lv_istore_n (lv' := [(2, .int y11), (0, .ref (ad 0)), (1, .int b1), (3, .int b3)]) hx hb dX6_ordersNow_37 rfl hl (by decide) rfl (fun ls hl => ?_)
    obtain ⟨y12, ey12⟩ : ∃ y : Int32, y = b3 + 1 := ⟨_, rfl⟩
    have h := h y12 ey12
    refine lv_iinc (v := y12) (lv' := [(3, .int y12), (2, .int y11), (0, .ref (ad 0)), (1, .int b1)]) hx hb dX6_ordersNow_38 hl (k := 3) rfl (by rw [ey12]; rfl) (by decide) rfl (fun ls hl => ?_)
    refine lv_goto (tgt := 13) hx hb dX6_ordersNow_41 (by decide) ?_
    exact h _ _ _ hP hD hS (lv_sub hl [2, 3, 1, 0] rfl)
set_option maxHeartbeats 4000000 in
set_option maxRecDepth 100000 in
theorem c_X6_orders (l : Launch) (D : va_G) (cc : Nat → ClassId) (A : Nat → Prop) (ad : Nat → Nat) (rs : va_W)  (μ : Mem) (K : Int32 → Mem → Prop) (h : f_X6_orders  μ K) : Met l yX6_orders wsX6_orders ({ frames := 4, cells := 0, slots := 0, locals := 87 }) (va_Pc [.ref (ad 0)] (PW shM 18 D cc A ad rs μ)) (va_Qi K (PW shM 18 D cc A ad rs) A) 0 0 A := by
  refine Met.ofW (cc := cX6_orders) (maxL := 1) (ret := (some .int)) (by decide) rfl ?_
  intro p e s m args below meth c s₁ BB hml hv
  obtain ⟨rfl, hP, hK, hD, hN⟩ := hv
  have hx := BB.exec
  have hb := BB.bytes
  have hr := BB.returns
  have hts := atoms_spec (ws := wsX6_orders) BB.pre
  have hown : s.vm.findClass RX6 = some m.cls := findClass_of_methodNamed BB.named
  have hlocks := BB.notSynchronized
  have hS : va_S A s.heap s.heap [] := va_S.rf
  have hl := lv_entry ([.ref (ad 0)]) (n := 1) (Nat.le_of_ble_eq_true rfl)
  rw [lg_entry_eq]
  generalize (lg_sl ([.ref (ad 0)]) ++ List.replicate (1 - (lg_sl ([.ref (ad 0)])).length) Slot.unset).toArray = ls at hl ⊢
  have hl : lv_has ls 1 [(0, .ref (ad 0))] := hl
  unfold f_X6_orders at h
  refine lv_aload_n hx hb dX6_orders_0 rfl (lv_at hl 0 rfl) ?_
  refine zc_i (zc_runV (As := []) (rest := []) ⟨hx, hb, hml, hown, hts⟩ (c_X6_ordersNow l D cc A ad rs  μ _ h) (cwV 0 hts gX6_orders_X6_ordersNow rfl rfl rfl (by decide +kernel) ⟨Nat.le_of_ble_eq_true rfl, Nat.le_of_ble_eq_true rfl⟩) kM_0 rfl hK hN hP hD rfl hl.1 rfl (Nat.le_of_ble_eq_true rfl) dX6_orders_1 ⟨Nat.zero_le _, Nat.zero_le _⟩) hS (fun r1 μ2 H locs h hP hD hS => ?_)
  exact W.iret (v := r1) hx hb hr (fun t ht hW => ⟨⟨r1, μ2, rfl, h, PW.to hK hN hP hD t ht hW⟩, hS.F ht⟩) hS.2.2 dX6_orders_4
set_option maxHeartbeats 4000000 in
set_option maxRecDepth 100000 in
theorem c_X6_findResolved (l : Launch) (D : va_G) (cc : Nat → ClassId) (A : Nat → Prop) (ad : Nat → Nat) (rs : va_W)  (μ : Mem) (K : Int32 → Mem → Prop) (h : f_X6_findResolved  μ K) : Met l yX6_findResolved wsX6_findResolved ({ frames := 3, cells := 0, slots := 0, locals := 64 }) (va_Pc [.ref (ad 0)] (PW shM 18 D cc A ad rs μ)) (va_Qi K (PW shM 18 D cc A ad rs) A) 0 0 A := by
  refine Met.ofW (cc := cX6_findResolved) (maxL := 3) (ret := (some .int)) (by decide) rfl ?_
  intro p e s m args below meth c s₁ BB hml hv
  obtain ⟨rfl, hP, hK, hD, hN⟩ := hv
  have hx := BB.exec
  have hb := BB.bytes
  have hr := BB.returns
  have hts := atoms_spec (ws := wsX6_findResolved) BB.pre
  have hown : s.vm.findClass RX6 = some m.cls := findClass_of_methodNamed BB.named
  have hlocks := BB.notSynchronized
  have hi_X6 : ∀ w ∈ u_ws RX6 TX6 22, w ∈ wsX6_findResolved := by decide +kernel
  have hw0 := hts (.fieldLink RX6 162 "FeatureClashesModel" "thoseMany" "I") (by decide +kernel)
  have hS : va_S A s.heap s.heap [] := va_S.rf
  have hl := lv_entry ([.ref (ad 0)]) (n := 3) (Nat.le_of_ble_eq_true rfl)
  rw [lg_entry_eq]
  generalize (lg_sl ([.ref (ad 0)]) ++ List.replicate (3 - (lg_sl ([.ref (ad 0)])).length) Slot.unset).toArray = ls at hl ⊢
  have hl : lv_has ls 3 [(0, .ref (ad 0))] := hl
  unfold f_X6_findResolved at h
  refine (fun h => ?main) (h (fun b2 μ => ∀ (H1 : Heap) (locs : List Loc) (ls : Array Slot), va_P D vwCl (wW shM 18 cc ad μ ++ rs) H1 → va_D A (wW shM 18 cc ad μ ++ rs) → va_S A s.heap H1 locs → lv_has ls 3 [(0, .ref (ad 0)), (2, .int b2)] → W p l e (headSpec wsX6_findResolved ({ frames := 3, cells := 0, slots := 0, locals := 64 })).room s m ([.ref (ad 0)] : List Value).toArray below meth c H1 locs 0 0 (MQ below (va_Qi K (PW shM 18 D cc A ad rs) A) ([.ref (ad 0)] : List Value).toArray s 0 0 A) (F0 m 16 ls ([]))) ?b16)
  case main =>
      refine lv_aload_n hx hb dX6_findResolved_0 rfl (lv_at hl 0 rfl) ?_
      refine zc_v (zc_runV (As := []) (rest := []) ⟨hx, hb, hml, hown, hts⟩ (c_X6_findBehind l D cc A ad rs  μ _ h) (cwV 0 hts gX6_findResolved_X6_findBehind rfl rfl rfl (by decide +kernel) ⟨Nat.le_of_ble_eq_true rfl, Nat.le_of_ble_eq_true rfl⟩) kM_0 rfl hK hN hP hD rfl hl.1 rfl (Nat.le_of_ble_eq_true rfl) dX6_findResolved_1 ⟨Nat.zero_le _, Nat.zero_le _⟩) hS (fun μ2 H locs h hP hD hS => ?_)
      refine lv_aload_n hx hb dX6_findResolved_4 rfl (lv_at hl 0 rfl) ?_
      refine zc_i (zc_runV (As := []) (rest := []) ⟨hx, hb, hml, hown, hts⟩ (c_X6_findThose l D cc A ad rs  μ2 _ h) (cwV 0 hts gX6_findResolved_X6_findThose rfl rfl rfl (by decide +kernel) ⟨Nat.le_of_ble_eq_true rfl, Nat.le_of_ble_eq_true rfl⟩) kM_0 rfl hK hN hP hD rfl hl.1 rfl (Nat.le_of_ble_eq_true rfl) dX6_findResolved_5 ⟨Nat.zero_le _, Nat.zero_le _⟩) hS (fun r3 μ4 H locs h hP hD hS => ?_)
      refine lv_istore_n (lv' := [(1, .int r3), (0, .ref (ad 0))]) hx hb dX6_findResolved_8 rfl hl (by decide) rfl (fun ls hl => ?_)
      refine lv_iconst (v := 0) hx hb dX6_findResolved_9 (by decide) ?_
      refine lv_istore_n (lv' := [(2, .int 0), (1, .int r3), (0, .ref (ad 0))]) hx hb dX6_findResolved_10 rfl hl (by decide) rfl (fun ls hl => ?_)
      refine lv_aload_n hx hb dX6_findResolved_11 rfl (lv_at hl 2 rfl) ?_
      refine lv_iconst (v := 0) hx hb dX6_findResolved_12 (by decide) ?_
      refine zc_v (zc_runV (As := [.int 0]) (rest := []) ⟨hx, hb, hml, hown, hts⟩ (c_X6_findOrder l D cc A ad rs 0 μ4 _ h) (cwV 1 hts gX6_findResolved_X6_findOrder rfl rfl rfl (by decide +kernel) ⟨Nat.le_of_ble_eq_true rfl, Nat.le_of_ble_eq_true rfl⟩) kM_0 rfl hK hN hP hD rfl hl.1 rfl (Nat.le_of_ble_eq_true rfl) dX6_findResolved_13 ⟨Nat.zero_le _, Nat.zero_le _⟩) hS (fun μ6 H locs h hP hD hS => ?_)
      exact h _ _ _ hP hD hS (lv_sub hl [2, 0] rfl)
  case b16 =>
    intro b2 μ h H locs ls hP hD hS hl
    refine lv_aload_n hx hb dX6_findResolved_16 rfl (lv_at hl 0 rfl) ?_
    refine zc_i (zc_runV (As := []) (rest := []) ⟨hx, hb, hml, hown, hts⟩ (c_X6_isAllowed l D cc A ad rs  μ _ h) (cwV 0 hts gX6_findResolved_X6_isAllowed rfl rfl rfl (by decide +kernel) ⟨Nat.le_of_ble_eq_true rfl, Nat.le_of_ble_eq_true rfl⟩) kM_0 rfl hK hN hP hD rfl hl.1 rfl (Nat.le_of_ble_eq_true rfl) dX6_findResolved_17 ⟨Nat.zero_le _, Nat.zero_le _⟩) hS (fun r7 μ8 H locs h hP hD hS => ?_)
    refine lv_if_ne (tgt := 34) hx hb dX6_findResolved_20 (by decide) (fun c9 => ?_) (fun c9 => ?_)
    · have h := h.1 c9
      refine lv_aload_n hx hb dX6_findResolved_34 rfl (lv_at hl 0 rfl) ?_
      refine zw_get (C := RX6) (T := TX6) (M := 22) (v := .int (μ8.1 0 18)) hx hb hts hi_X6 hown hK hP kM_0 rfl 18 (by decide) hw0 rfl dX6_findResolved_35 ?_
      exact W.iret (v := μ8.1 0 18) hx hb hr (fun t ht hW => ⟨⟨μ8.1 0 18, μ8, rfl, h, PW.to hK hN hP hD t ht hW⟩, hS.F ht⟩) hS.2.2 dX6_findResolved_38
    · have h := h.2 c9
      obtain ⟨y10, ey10⟩ : ∃ y : Int32, y = b2 + 1 := ⟨_, rfl⟩
      have h := h y10 ey10
      refine lv_iinc (v := y10) (lv' := [(2, .int y10), (0, .ref (ad 0))]) hx hb dX6_findResolved_23 hl (k := 1) rfl (by rw [ey10]; rfl) (by decide) rfl (fun ls hl => ?_)
      refine lv_aload_n hx hb dX6_findResolved_26 rfl (lv_at hl 1 rfl) ?_
      refine lv_iload_n hx hb dX6_findResolved_27 rfl (lv_at hl 0 rfl) ?_
      refine zc_v (zc_runV (As := [.int y10]) (rest := []) ⟨hx, hb, hml, hown, hts⟩ (c_X6_findOrder l D cc A ad rs y10 μ8 _ h) (cwV 1 hts gX6_findResolved_X6_findOrder rfl rfl rfl (by decide +kernel) ⟨Nat.le_of_ble_eq_true rfl, Nat.le_of_ble_eq_true rfl⟩) kM_0 rfl hK hN hP hD rfl hl.1 rfl (Nat.le_of_ble_eq_true rfl) dX6_findResolved_28 ⟨Nat.zero_le _, Nat.zero_le _⟩) hS (fun μ12 H locs h hP hD hS => ?_)
      refine lv_goto (tgt := 16) hx hb dX6_findResolved_31 (by decide) ?_
      exact h _ _ _ hP hD hS (lv_sub hl [1, 0] rfl)
set_option maxHeartbeats 4000000 in
set_option maxRecDepth 100000 in
theorem c_X6_resolved (l : Launch) (D : va_G) (cc : Nat → ClassId) (A : Nat → Prop) (ad : Nat → Nat) (rs : va_W) (x1 : Int32) (μ : Mem) (K : Int32 → Mem → Prop) (h : f_X6_resolved x1 μ K) : Met l yX6_resolved wsX6_resolved ({ frames := 4, cells := 0, slots := 0, locals := 86 }) (va_Pc [.ref (ad 0), .int x1] (PW shM 18 D cc A ad rs μ)) (va_Qi K (PW shM 18 D cc A ad rs) A) 0 0 A := by
  refine Met.ofW (cc := cX6_resolved) (maxL := 2) (ret := (some .int)) (by decide) rfl ?_
  intro p e s m args below meth c s₁ BB hml hv
  obtain ⟨rfl, hP, hK, hD, hN⟩ := hv
  have hx := BB.exec
  have hb := BB.bytes
  have hr := BB.returns
  have hts := atoms_spec (ws := wsX6_resolved) BB.pre
  have hown : s.vm.findClass RX6 = some m.cls := findClass_of_methodNamed BB.named
  have hlocks := BB.notSynchronized
  have hi_X6 : ∀ w ∈ u_ws RX6 TX6 22, w ∈ wsX6_resolved := by decide +kernel
  have hw0 := hts (.fieldLink RX6 53 "FeatureClashesModel" "order" "[I") (by decide +kernel)
  have hS : va_S A s.heap s.heap [] := va_S.rf
  have hl := lv_entry ([.ref (ad 0), .int x1]) (n := 2) (Nat.le_of_ble_eq_true rfl)
  rw [lg_entry_eq]
  generalize (lg_sl ([.ref (ad 0), .int x1]) ++ List.replicate (2 - (lg_sl ([.ref (ad 0), .int x1])).length) Slot.unset).toArray = ls at hl ⊢
  have hl : lv_has ls 2 [(0, .ref (ad 0)), (1, .int x1)] := hl
  unfold f_X6_resolved at h
  refine lv_iload_n hx hb dX6_resolved_0 rfl (lv_at hl 1 rfl) ?_
  refine lv_if_ge (tgt := 6) hx hb dX6_resolved_1 (by decide) (fun c1 => ?_) (fun c1 => ?_)
  · have h := h.1 c1
    refine lv_iload_n hx hb dX6_resolved_6 rfl (lv_at hl 1 rfl) ?_
    refine lv_aload_n hx hb dX6_resolved_7 rfl (lv_at hl 0 rfl) ?_
    refine zc_i (zc_runV (As := []) (rest := [.int x1]) ⟨hx, hb, hml, hown, hts⟩ (c_X6_findResolved l D cc A ad rs  μ _ h) (cwV 0 hts gX6_resolved_X6_findResolved rfl rfl rfl (by decide +kernel) ⟨Nat.le_of_ble_eq_true rfl, Nat.le_of_ble_eq_true rfl⟩) kM_0 rfl hK hN hP hD rfl hl.1 rfl (Nat.le_of_ble_eq_true rfl) dX6_resolved_8 ⟨Nat.zero_le _, Nat.zero_le _⟩) hS (fun r2 μ3 H locs h hP hD hS => ?_)
    refine lv_icmp_ge (tgt := 23) hx hb dX6_resolved_11 (by decide) (fun c4 => ?_) (fun c4 => ?_)
    · have h := h.1 c4
      refine lv_bipush (v := (-5)) hx hb dX6_resolved_23 (by decide) ?_
      exact W.iret (v := (-5)) hx hb hr (fun t ht hW => ⟨⟨(-5), μ3, rfl, h, PW.to hK hN hP hD t ht hW⟩, hS.F ht⟩) hS.2.2 dX6_resolved_25
    · have h := h.2 c4
      refine lv_aload_n hx hb dX6_resolved_14 rfl (lv_at hl 0 rfl) ?_
      refine zw_get (C := RX6) (T := TX6) (M := 22) (v := .ref (ad 15)) hx hb hts hi_X6 hown hK hP kM_0 rfl 19 (by decide) hw0 rfl dX6_resolved_15 ?_
      refine lv_iload_n hx hb dX6_resolved_18 rfl (lv_at hl 1 rfl) ?_
      obtain ⟨hi5, h⟩ := h
      refine zw_iald hx hb hK hP kM_15 hi5 dX6_resolved_19 ?_
      refine lv_goto (tgt := 25) hx hb dX6_resolved_20 (by decide) ?_
      exact W.iret (v := μ3.1 15 (x1 : Int32).toNatClampNeg) hx hb hr (fun t ht hW => ⟨⟨μ3.1 15 (x1 : Int32).toNatClampNeg, μ3, rfl, h, PW.to hK hN hP hD t ht hW⟩, hS.F ht⟩) hS.2.2 dX6_resolved_25
  · have h := h.2 c1
    refine lv_iconst (v := (-1)) hx hb dX6_resolved_4 (by decide) ?_
    exact W.iret (v := (-1)) hx hb hr (fun t ht hW => ⟨⟨(-1), μ, rfl, h, PW.to hK hN hP hD t ht hW⟩, hS.F ht⟩) hS.2.2 dX6_resolved_5
