set_option maxHeartbeats 4000000 in
set_option maxRecDepth 100000 in
theorem c_X2_hasLetter (l : Launch) (D : va_G) (cc : Nat → ClassId) (A : Nat → Prop) (ad : Nat → Nat) (rs : va_W) (B : Nat) (hB : isSetup B) (x1 : Int32) (μ : Mem) (K : Int32 → Mem → Prop) (h : f_X2_hasLetter B x1 μ K) : Met l yX2_hasLetter wsX2_hasLetter ({ frames := 0, cells := 0, slots := 0, locals := 0 }) (va_Pc [.ref (ad B), .int x1] (PW shX 67 D cc A ad rs μ)) (va_Qi K (PW shX 67 D cc A ad rs) A) 0 0 A := by
  refine Met.ofW (cc := cX2_hasLetter) (maxL := 2) (ret := (some .boolean)) (by decide) rfl ?_
  intro p e s m args below meth c s₁ BB hml hv
  obtain ⟨rfl, hP, hK, hD, hN⟩ := hv
  have hx := BB.exec
  have hb := BB.bytes
  have hr := BB.returns
  have hts := atoms_spec (ws := wsX2_hasLetter) BB.pre
  have hown : s.vm.findClass RX2 = some m.cls := findClass_of_methodNamed BB.named
  have hlocks := BB.notSynchronized
  have hi_X2 : ∀ w ∈ u_ws RX2 TX2 7, w ∈ wsX2_hasLetter := by decide +kernel
  have hw0 := hts (.fieldLink RX2 15 "FeatureClashes$Setup" "letters" "I") (by decide +kernel)
  have hS : va_S A s.heap s.heap [] := va_S.rf
  have hl := lv_entry ([.ref (ad B), .int x1]) (n := 2) (Nat.le_of_ble_eq_true rfl)
  rw [lg_entry_eq]
  generalize (lg_sl ([.ref (ad B), .int x1]) ++ List.replicate (2 - (lg_sl ([.ref (ad B), .int x1])).length) Slot.unset).toArray = ls at hl ⊢
  have hl : lv_has ls 2 [(0, .ref (ad B)), (1, .int x1)] := hl
  unfold f_X2_hasLetter at h
  refine lv_iload_n hx hb dX2_hasLetter_0 rfl (lv_at hl 1 rfl) ?_
  refine lv_if_lt (tgt := 16) hx hb dX2_hasLetter_1 (by decide) (fun c1 => ?_) (fun c1 => ?_)
  · have h := h.1 c1
    refine lv_iconst (v := 0) hx hb dX2_hasLetter_16 (by decide) ?_
    exact W.zret (ty := .boolean) (v := 0) hx hb hr rfl (fun t ht hW => ⟨⟨0, μ, rfl, h, PW.to hK hN hP hD t ht hW⟩, hS.F ht⟩) hS.2.2 dX2_hasLetter_17
  · have h := h.2 c1
    refine lv_iload_n hx hb dX2_hasLetter_4 rfl (lv_at hl 1 rfl) ?_
    refine lv_aload_n hx hb dX2_hasLetter_5 rfl (lv_at hl 0 rfl) ?_
    refine zw_get (C := RX2) (T := TX2) (M := 7) (v := .int (μ.1 B 1)) hx hb hts hi_X2 hown hK hP (oS hB) rfl 1 (by decide) hw0 rfl dX2_hasLetter_6 ?_
    refine lv_icmp_ge (tgt := 16) hx hb dX2_hasLetter_9 (by decide) (fun c2 => ?_) (fun c2 => ?_)
    · have h := h.1 c2
      refine lv_iconst (v := 0) hx hb dX2_hasLetter_16 (by decide) ?_
      exact W.zret (ty := .boolean) (v := 0) hx hb hr rfl (fun t ht hW => ⟨⟨0, μ, rfl, h, PW.to hK hN hP hD t ht hW⟩, hS.F ht⟩) hS.2.2 dX2_hasLetter_17
    · have h := h.2 c2
      refine lv_iconst (v := 1) hx hb dX2_hasLetter_12 (by decide) ?_
      refine lv_goto (tgt := 17) hx hb dX2_hasLetter_13 (by decide) ?_
      exact W.zret (ty := .boolean) (v := 1) hx hb hr rfl (fun t ht hW => ⟨⟨1, μ, rfl, h, PW.to hK hN hP hD t ht hW⟩, hS.F ht⟩) hS.2.2 dX2_hasLetter_17
set_option maxHeartbeats 4000000 in
set_option maxRecDepth 100000 in
theorem c_X2_hasCell (l : Launch) (D : va_G) (cc : Nat → ClassId) (A : Nat → Prop) (ad : Nat → Nat) (rs : va_W) (B : Nat) (hB : isSetup B) (x1 : Int32) (x2 : Int32) (μ : Mem) (K : Int32 → Mem → Prop) (h : f_X2_hasCell B x1 x2 μ K) : Met l yX2_hasCell wsX2_hasCell ({ frames := 1, cells := 0, slots := 0, locals := 21 }) (va_Pc [.ref (ad B), .int x1, .int x2] (PW shX 67 D cc A ad rs μ)) (va_Qi K (PW shX 67 D cc A ad rs) A) 0 0 A := by
  refine Met.ofW (cc := cX2_hasCell) (maxL := 3) (ret := (some .boolean)) (by decide) rfl ?_
  intro p e s m args below meth c s₁ BB hml hv
  obtain ⟨rfl, hP, hK, hD, hN⟩ := hv
  have hx := BB.exec
  have hb := BB.bytes
  have hr := BB.returns
  have hts := atoms_spec (ws := wsX2_hasCell) BB.pre
  have hown : s.vm.findClass RX2 = some m.cls := findClass_of_methodNamed BB.named
  have hlocks := BB.notSynchronized
  have hS : va_S A s.heap s.heap [] := va_S.rf
  have hl := lv_entry ([.ref (ad B), .int x1, .int x2]) (n := 3) (Nat.le_of_ble_eq_true rfl)
  rw [lg_entry_eq]
  generalize (lg_sl ([.ref (ad B), .int x1, .int x2]) ++ List.replicate (3 - (lg_sl ([.ref (ad B), .int x1, .int x2])).length) Slot.unset).toArray = ls at hl ⊢
  have hl : lv_has ls 3 [(0, .ref (ad B)), (1, .int x1), (2, .int x2)] := hl
  unfold f_X2_hasCell at h
  refine lv_aload_n hx hb dX2_hasCell_0 rfl (lv_at hl 0 rfl) ?_
  refine lv_iload_n hx hb dX2_hasCell_1 rfl (lv_at hl 1 rfl) ?_
  refine zc_i (zc_runV (As := [.int x1]) (rest := []) ⟨hx, hb, hml, hown, hts⟩ (c_X2_hasState l D cc A ad rs B hB x1 μ _ h) (cwV 1 hts gX2_hasCell_X2_hasState rfl rfl rfl (by decide +kernel) ⟨Nat.le_of_ble_eq_true rfl, Nat.le_of_ble_eq_true rfl⟩) (oS hB) rfl hK hN hP hD rfl hl.1 rfl (Nat.le_of_ble_eq_true rfl) dX2_hasCell_2 ⟨Nat.zero_le _, Nat.zero_le _⟩) hS (fun r1 μ2 H locs h hP hD hS => ?_)
  refine lv_if_eq (tgt := 20) hx hb dX2_hasCell_5 (by decide) (fun c3 => ?_) (fun c3 => ?_)
  · have h := h.1 c3
    refine lv_iconst (v := 0) hx hb dX2_hasCell_20 (by decide) ?_
    exact W.zret (ty := .boolean) (v := 0) hx hb hr rfl (fun t ht hW => ⟨⟨0, μ2, rfl, h, PW.to hK hN hP hD t ht hW⟩, hS.F ht⟩) hS.2.2 dX2_hasCell_21
  · have h := h.2 c3
    refine lv_aload_n hx hb dX2_hasCell_8 rfl (lv_at hl 0 rfl) ?_
    refine lv_iload_n hx hb dX2_hasCell_9 rfl (lv_at hl 2 rfl) ?_
    refine zc_i (zc_runV (As := [.int x2]) (rest := []) ⟨hx, hb, hml, hown, hts⟩ (c_X2_hasLetter l D cc A ad rs B hB x2 μ2 _ h) (cwV 1 hts gX2_hasCell_X2_hasLetter rfl rfl rfl (by decide +kernel) ⟨Nat.le_of_ble_eq_true rfl, Nat.le_of_ble_eq_true rfl⟩) (oS hB) rfl hK hN hP hD rfl hl.1 rfl (Nat.le_of_ble_eq_true rfl) dX2_hasCell_10 ⟨Nat.zero_le _, Nat.zero_le _⟩) hS (fun r4 μ5 H locs h hP hD hS => ?_)
    refine lv_if_eq (tgt := 20) hx hb dX2_hasCell_13 (by decide) (fun c6 => ?_) (fun c6 => ?_)
    · have h := h.1 c6
      refine lv_iconst (v := 0) hx hb dX2_hasCell_20 (by decide) ?_
      exact W.zret (ty := .boolean) (v := 0) hx hb hr rfl (fun t ht hW => ⟨⟨0, μ5, rfl, h, PW.to hK hN hP hD t ht hW⟩, hS.F ht⟩) hS.2.2 dX2_hasCell_21
    · have h := h.2 c6
      refine lv_iconst (v := 1) hx hb dX2_hasCell_16 (by decide) ?_
      refine lv_goto (tgt := 21) hx hb dX2_hasCell_17 (by decide) ?_
      exact W.zret (ty := .boolean) (v := 1) hx hb hr rfl (fun t ht hW => ⟨⟨1, μ5, rfl, h, PW.to hK hN hP hD t ht hW⟩, hS.F ht⟩) hS.2.2 dX2_hasCell_21
set_option maxHeartbeats 4000000 in
set_option maxRecDepth 100000 in
theorem c_X2_hasFeature (l : Launch) (D : va_G) (cc : Nat → ClassId) (A : Nat → Prop) (ad : Nat → Nat) (rs : va_W) (B : Nat) (hB : isSetup B) (x1 : Int32) (μ : Mem) (K : Int32 → Mem → Prop) (h : f_X2_hasFeature B x1 μ K) : Met l yX2_hasFeature wsX2_hasFeature ({ frames := 0, cells := 0, slots := 0, locals := 0 }) (va_Pc [.ref (ad B), .int x1] (PW shX 67 D cc A ad rs μ)) (va_Qi K (PW shX 67 D cc A ad rs) A) 0 0 A := by
  refine Met.ofW (cc := cX2_hasFeature) (maxL := 2) (ret := (some .boolean)) (by decide) rfl ?_
  intro p e s m args below meth c s₁ BB hml hv
  obtain ⟨rfl, hP, hK, hD, hN⟩ := hv
  have hx := BB.exec
  have hb := BB.bytes
  have hr := BB.returns
  have hts := atoms_spec (ws := wsX2_hasFeature) BB.pre
  have hown : s.vm.findClass RX2 = some m.cls := findClass_of_methodNamed BB.named
  have hlocks := BB.notSynchronized
  have hi_X2 : ∀ w ∈ u_ws RX2 TX2 7, w ∈ wsX2_hasFeature := by decide +kernel
  have hw0 := hts (.fieldLink RX2 18 "FeatureClashes$Setup" "featureCount" "I") (by decide +kernel)
  have hS : va_S A s.heap s.heap [] := va_S.rf
  have hl := lv_entry ([.ref (ad B), .int x1]) (n := 2) (Nat.le_of_ble_eq_true rfl)
  rw [lg_entry_eq]
  generalize (lg_sl ([.ref (ad B), .int x1]) ++ List.replicate (2 - (lg_sl ([.ref (ad B), .int x1])).length) Slot.unset).toArray = ls at hl ⊢
  have hl : lv_has ls 2 [(0, .ref (ad B)), (1, .int x1)] := hl
  unfold f_X2_hasFeature at h
  refine lv_iload_n hx hb dX2_hasFeature_0 rfl (lv_at hl 1 rfl) ?_
  refine lv_if_lt (tgt := 16) hx hb dX2_hasFeature_1 (by decide) (fun c1 => ?_) (fun c1 => ?_)
  · have h := h.1 c1
    refine lv_iconst (v := 0) hx hb dX2_hasFeature_16 (by decide) ?_
    exact W.zret (ty := .boolean) (v := 0) hx hb hr rfl (fun t ht hW => ⟨⟨0, μ, rfl, h, PW.to hK hN hP hD t ht hW⟩, hS.F ht⟩) hS.2.2 dX2_hasFeature_17
  · have h := h.2 c1
    refine lv_iload_n hx hb dX2_hasFeature_4 rfl (lv_at hl 1 rfl) ?_
    refine lv_aload_n hx hb dX2_hasFeature_5 rfl (lv_at hl 0 rfl) ?_
    refine zw_get (C := RX2) (T := TX2) (M := 7) (v := .int (μ.1 B 2)) hx hb hts hi_X2 hown hK hP (oS hB) rfl 2 (by decide) hw0 rfl dX2_hasFeature_6 ?_
    refine lv_icmp_ge (tgt := 16) hx hb dX2_hasFeature_9 (by decide) (fun c2 => ?_) (fun c2 => ?_)
    · have h := h.1 c2
      refine lv_iconst (v := 0) hx hb dX2_hasFeature_16 (by decide) ?_
      exact W.zret (ty := .boolean) (v := 0) hx hb hr rfl (fun t ht hW => ⟨⟨0, μ, rfl, h, PW.to hK hN hP hD t ht hW⟩, hS.F ht⟩) hS.2.2 dX2_hasFeature_17
    · have h := h.2 c2
      refine lv_iconst (v := 1) hx hb dX2_hasFeature_12 (by decide) ?_
      refine lv_goto (tgt := 17) hx hb dX2_hasFeature_13 (by decide) ?_
      exact W.zret (ty := .boolean) (v := 1) hx hb hr rfl (fun t ht hW => ⟨⟨1, μ, rfl, h, PW.to hK hN hP hD t ht hW⟩, hS.F ht⟩) hS.2.2 dX2_hasFeature_17
set_option maxHeartbeats 4000000 in
set_option maxRecDepth 100000 in
theorem c_X2_turn (l : Launch) (D : va_G) (cc : Nat → ClassId) (A : Nat → Prop) (ad : Nat → Nat) (rs : va_W) (B : Nat) (hB : isSetup B) (x1 : Int32) (x2 : Int32) (μ : Mem) (K : Mem → Prop) (h : f_X2_turn B x1 x2 μ K) : Met l yX2_turn wsX2_turn ({ frames := 0, cells := 0, slots := 0, locals := 0 }) (va_Pc [.ref (ad B), .int x1, .int x2] (PW shX 67 D cc A ad rs μ)) (va_Qv K (PW shX 67 D cc A ad rs) A) 0 0 A := by
  refine Met.ofW (cc := cX2_turn) (maxL := 3) (ret := none) (by decide) rfl ?_
  intro p e s m args below meth c s₁ BB hml hv
  obtain ⟨rfl, hP, hK, hD, hN⟩ := hv
  have hx := BB.exec
  have hb := BB.bytes
  have hr := BB.returns
  have hts := atoms_spec (ws := wsX2_turn) BB.pre
  have hown : s.vm.findClass RX2 = some m.cls := findClass_of_methodNamed BB.named
  have hlocks := BB.notSynchronized
  have hi_X2 : ∀ w ∈ u_ws RX2 TX2 7, w ∈ wsX2_turn := by decide +kernel
  have hw0 := hts (.fieldLink RX2 21 "FeatureClashes$Setup" "onSet" "I") (by decide +kernel)
  have hS : va_S A s.heap s.heap [] := va_S.rf
  have hl := lv_entry ([.ref (ad B), .int x1, .int x2]) (n := 3) (Nat.le_of_ble_eq_true rfl)
  rw [lg_entry_eq]
  generalize (lg_sl ([.ref (ad B), .int x1, .int x2]) ++ List.replicate (3 - (lg_sl ([.ref (ad B), .int x1, .int x2])).length) Slot.unset).toArray = ls at hl ⊢
  have hl : lv_has ls 3 [(0, .ref (ad B)), (1, .int x1), (2, .int x2)] := hl
  unfold f_X2_turn at h
  refine lv_aload_n hx hb dX2_turn_0 rfl (lv_at hl 0 rfl) ?_
  refine lv_iload_n hx hb dX2_turn_1 rfl (lv_at hl 2 rfl) ?_
  refine lv_if_eq (tgt := 16) hx hb dX2_turn_2 (by decide) (fun c1 => ?_) (fun c1 => ?_)
  · have h := h.1 c1
    refine lv_aload_n hx hb dX2_turn_16 rfl (lv_at hl 0 rfl) ?_
    refine zw_get (C := RX2) (T := TX2) (M := 7) (v := .int (μ.1 B 3)) hx hb hts hi_X2 hown hK hP (oS hB) rfl 3 (by decide) hw0 rfl dX2_turn_17 ?_
    refine lv_iconst (v := 1) hx hb dX2_turn_20 (by decide) ?_
    refine lv_iload_n hx hb dX2_turn_21 rfl (lv_at hl 1 rfl) ?_
    refine lv_ishl hx hb dX2_turn_22 ?_
    refine lv_iconst (v := (-1)) hx hb dX2_turn_23 (by decide) ?_
    refine lv_ixor hx hb dX2_turn_24 ?_
    refine lv_iand hx hb dX2_turn_25 ?_
    refine zw_put (C := RX2) (T := TX2) (M := 7) hx hb hts hi_X2 tyX2 tyX2_ok nmX2 hown hK hP hD hS (oS hB) rfl 3 (by decide) hw0 rfl rfl (Nat.le_of_ble_eq_true rfl) rfl dX2_turn_26 (fun μ2 H locs eμ2 hP hD hS => ?_)
    have h := h μ2 eμ2
    exact W.vret hx hb hr (fun t ht hW => ⟨⟨μ2, rfl, h, PW.to hK hN hP hD t ht hW⟩, hS.F ht⟩) hS.2.2 dX2_turn_29
  · have h := h.2 c1
    refine lv_aload_n hx hb dX2_turn_5 rfl (lv_at hl 0 rfl) ?_
    refine zw_get (C := RX2) (T := TX2) (M := 7) (v := .int (μ.1 B 3)) hx hb hts hi_X2 hown hK hP (oS hB) rfl 3 (by decide) hw0 rfl dX2_turn_6 ?_
    refine lv_iconst (v := 1) hx hb dX2_turn_9 (by decide) ?_
    refine lv_iload_n hx hb dX2_turn_10 rfl (lv_at hl 1 rfl) ?_
    refine lv_ishl hx hb dX2_turn_11 ?_
    refine lv_ior hx hb dX2_turn_12 ?_
    refine lv_goto (tgt := 26) hx hb dX2_turn_13 (by decide) ?_
    refine zw_put (C := RX2) (T := TX2) (M := 7) hx hb hts hi_X2 tyX2 tyX2_ok nmX2 hown hK hP hD hS (oS hB) rfl 3 (by decide) hw0 rfl rfl (Nat.le_of_ble_eq_true rfl) rfl dX2_turn_26 (fun μ3 H locs eμ3 hP hD hS => ?_)
    have h := h μ3 eμ3
    exact W.vret hx hb hr (fun t ht hW => ⟨⟨μ3, rfl, h, PW.to hK hN hP hD t ht hW⟩, hS.F ht⟩) hS.2.2 dX2_turn_29
set_option maxHeartbeats 4000000 in
set_option maxRecDepth 100000 in
theorem c_X2_makeFeature (l : Launch) (D : va_G) (cc : Nat → ClassId) (A : Nat → Prop) (ad : Nat → Nat) (rs : va_W) (B : Nat) (hB : isSetup B) (μ : Mem) (K : Int32 → Mem → Prop) (h : f_X2_makeFeature B μ K) : Met l yX2_makeFeature wsX2_makeFeature ({ frames := 1, cells := 0, slots := 0, locals := 23 }) (va_Pc [.ref (ad B)] (PW shX 67 D cc A ad rs μ)) (va_Qi K (PW shX 67 D cc A ad rs) A) 0 0 A := by
  refine Met.ofW (cc := cX2_makeFeature) (maxL := 2) (ret := (some .int)) (by decide) rfl ?_
  intro p e s m args below meth c s₁ BB hml hv
  obtain ⟨rfl, hP, hK, hD, hN⟩ := hv
  have hx := BB.exec
  have hb := BB.bytes
  have hr := BB.returns
  have hts := atoms_spec (ws := wsX2_makeFeature) BB.pre
  have hown : s.vm.findClass RX2 = some m.cls := findClass_of_methodNamed BB.named
  have hlocks := BB.notSynchronized
  have hi_X2 : ∀ w ∈ u_ws RX2 TX2 7, w ∈ wsX2_makeFeature := by decide +kernel
  have hw0 := hts (.fieldLink RX2 18 "FeatureClashes$Setup" "featureCount" "I") (by decide +kernel)
  have hw1 := hts (.fieldLink RX2 30 "FeatureClashes$Setup" "edits" "[[I") (by decide +kernel)
  have hS : va_S A s.heap s.heap [] := va_S.rf
  have hl := lv_entry ([.ref (ad B)]) (n := 2) (Nat.le_of_ble_eq_true rfl)
  rw [lg_entry_eq]
  generalize (lg_sl ([.ref (ad B)]) ++ List.replicate (2 - (lg_sl ([.ref (ad B)])).length) Slot.unset).toArray = ls at hl ⊢
  have hl : lv_has ls 2 [(0, .ref (ad B))] := hl
  unfold f_X2_makeFeature at h
  refine lv_aload_n hx hb dX2_makeFeature_0 rfl (lv_at hl 0 rfl) ?_
  refine zw_get (C := RX2) (T := TX2) (M := 7) (v := .int (μ.1 B 2)) hx hb hts hi_X2 hown hK hP (oS hB) rfl 2 (by decide) hw0 rfl dX2_makeFeature_1 ?_
  refine lv_topi (fun y1 ey1 => ?_)
  have h := h y1 ey1
  refine lv_istore_n (lv' := [(1, .int y1), (0, .ref (ad B))]) hx hb dX2_makeFeature_4 rfl hl (by decide) rfl (fun ls hl => ?_)
  refine lv_aload_n hx hb dX2_makeFeature_5 rfl (lv_at hl 1 rfl) ?_
  refine zw_get (C := RX2) (T := TX2) (M := 7) (v := .ref (ad (B+2))) hx hb hts hi_X2 hown hK hP (oS hB) rfl 5 (by decide) hw1 rfl dX2_makeFeature_6 ?_
  refine lv_iload_n hx hb dX2_makeFeature_9 rfl (lv_at hl 0 rfl) ?_
  obtain ⟨hi2, h⟩ := h
  refine zw_aalI hx hb hK hP (rS hB) hi2 dX2_makeFeature_10 ?_
  refine W.eq (g2 := F0 m 11 ls ([.ref (ad ((B+3) + (y1 : Int32).toNatClampNeg))])) rfl ?_
  refine lv_bipush (v := (-2)) hx hb dX2_makeFeature_11 (by decide) ?_
  refine zc_v (zc_runS (As := [.ref (ad ((B+3) + (y1 : Int32).toNatClampNeg)), .int (-2)]) (rest := []) ⟨hx, hb, hml, hown, hts⟩ (c_J7_fill_53178 l D cc A ad rs ((B+3) + (y1 : Int32).toNatClampNeg) 32 (iSr hB (zw_lt hi2)) (-2) μ _ h) (va_cwS 2 hts gX2_makeFeature_J7_fill_53178 rfl rfl rfl (by decide +kernel) ⟨Nat.le_of_ble_eq_true rfl, Nat.le_of_ble_eq_true rfl⟩) hK hN hP hD rfl hl.1 rfl (Nat.le_of_ble_eq_true rfl) dX2_makeFeature_13 ⟨Nat.zero_le _, Nat.zero_le _⟩) hS (fun μ4 H locs h hP hD hS => ?_)
  refine lv_aload_n hx hb dX2_makeFeature_16 rfl (lv_at hl 1 rfl) ?_
  refine lv_iload_n hx hb dX2_makeFeature_17 rfl (lv_at hl 0 rfl) ?_
  refine lv_iconst (v := 1) hx hb dX2_makeFeature_18 (by decide) ?_
  refine zc_v (zc_runV (As := [.int y1, .int 1]) (rest := []) ⟨hx, hb, hml, hown, hts⟩ (c_X2_turn l D cc A ad rs B hB y1 1 μ4 _ h) (cwV 2 hts gX2_makeFeature_X2_turn rfl rfl rfl (by decide +kernel) ⟨Nat.le_of_ble_eq_true rfl, Nat.le_of_ble_eq_true rfl⟩) (oS hB) rfl hK hN hP hD rfl hl.1 rfl (Nat.le_of_ble_eq_true rfl) dX2_makeFeature_19 ⟨Nat.zero_le _, Nat.zero_le _⟩) hS (fun μ6 H locs h hP hD hS => ?_)
  refine lv_aload_n hx hb dX2_makeFeature_22 rfl (lv_at hl 1 rfl) ?_
  refine lv_dup hx hb dX2_makeFeature_23 rfl ?_
  refine zw_get (C := RX2) (T := TX2) (M := 7) (v := .int (μ6.1 B 2)) hx hb hts hi_X2 hown hK hP (oS hB) rfl 2 (by decide) hw0 rfl dX2_makeFeature_24 ?_
  refine lv_iconst (v := 1) hx hb dX2_makeFeature_27 (by decide) ?_
  refine lv_iadd hx hb dX2_makeFeature_28 ?_
  refine zw_put (C := RX2) (T := TX2) (M := 7) hx hb hts hi_X2 tyX2 tyX2_ok nmX2 hown hK hP hD hS (oS hB) rfl 2 (by decide) hw0 rfl rfl (Nat.le_of_ble_eq_true rfl) rfl dX2_makeFeature_29 (fun μ7 H locs eμ7 hP hD hS => ?_)
  have h := h μ7 eμ7
  refine lv_iload_n hx hb dX2_makeFeature_32 rfl (lv_at hl 0 rfl) ?_
  exact W.iret (v := y1) hx hb hr (fun t ht hW => ⟨⟨y1, μ7, rfl, h, PW.to hK hN hP hD t ht hW⟩, hS.F ht⟩) hS.2.2 dX2_makeFeature_33
set_option maxHeartbeats 4000000 in
set_option maxRecDepth 100000 in
theorem c_X2_countEdits (l : Launch) (D : va_G) (cc : Nat → ClassId) (A : Nat → Prop) (ad : Nat → Nat) (rs : va_W) (B : Nat) (hB : isSetup B) (x1 : Int32) (μ : Mem) (K : Int32 → Mem → Prop) (h : f_X2_countEdits B x1 μ K) : Met l yX2_countEdits wsX2_countEdits ({ frames := 0, cells := 0, slots := 0, locals := 0 }) (va_Pc [.ref (ad B), .int x1] (PW shX 67 D cc A ad rs μ)) (va_Qi K (PW shX 67 D cc A ad rs) A) 0 0 A := by
  refine Met.ofW (cc := cX2_countEdits) (maxL := 4) (ret := (some .int)) (by decide) rfl ?_
  intro p e s m args below meth c s₁ BB hml hv
  obtain ⟨rfl, hP, hK, hD, hN⟩ := hv
  have hx := BB.exec
  have hb := BB.bytes
  have hr := BB.returns
  have hts := atoms_spec (ws := wsX2_countEdits) BB.pre
  have hown : s.vm.findClass RX2 = some m.cls := findClass_of_methodNamed BB.named
  have hlocks := BB.notSynchronized
  have hi_X2 : ∀ w ∈ u_ws RX2 TX2 7, w ∈ wsX2_countEdits := by decide +kernel
  have hw0 := hts (.fieldLink RX2 30 "FeatureClashes$Setup" "edits" "[[I") (by decide +kernel)
  have hS : va_S A s.heap s.heap [] := va_S.rf
  have hl := lv_entry ([.ref (ad B), .int x1]) (n := 4) (Nat.le_of_ble_eq_true rfl)
  rw [lg_entry_eq]
  generalize (lg_sl ([.ref (ad B), .int x1]) ++ List.replicate (4 - (lg_sl ([.ref (ad B), .int x1])).length) Slot.unset).toArray = ls at hl ⊢
  have hl : lv_has ls 4 [(0, .ref (ad B)), (1, .int x1)] := hl
  unfold f_X2_countEdits at h
  refine (fun h => ?main) (h (fun b1 b2 b3 μ => ∀ (H1 : Heap) (locs : List Loc) (ls : Array Slot), va_P D vwCl (wW shX 67 cc ad μ ++ rs) H1 → va_D A (wW shX 67 cc ad μ ++ rs) → va_S A s.heap H1 locs → lv_has ls 4 [(0, .ref (ad B)), (1, .int b1), (2, .int b2), (3, .int b3)] → W p l e (headSpec wsX2_countEdits ({ frames := 0, cells := 0, slots := 0, locals := 0 })).room s m ([.ref (ad B), .int x1] : List Value).toArray below meth c H1 locs 0 0 (MQ below (va_Qi K (PW shX 67 D cc A ad rs) A) ([.ref (ad B), .int x1] : List Value).toArray s 0 0 A) (F0 m 4 ls ([]))) (fun b1 b2 b3 μ => ∀ (H1 : Heap) (locs : List Loc) (ls : Array Slot), va_P D vwCl (wW shX 67 cc ad μ ++ rs) H1 → va_D A (wW shX 67 cc ad μ ++ rs) → va_S A s.heap H1 locs → lv_has ls 4 [(0, .ref (ad B)), (1, .int b1), (2, .int b2), (3, .int b3)] → W p l e (headSpec wsX2_countEdits ({ frames := 0, cells := 0, slots := 0, locals := 0 })).room s m ([.ref (ad B), .int x1] : List Value).toArray below meth c H1 locs 0 0 (MQ below (va_Qi K (PW shX 67 D cc A ad rs) A) ([.ref (ad B), .int x1] : List Value).toArray s 0 0 A) (F0 m 26 ls ([]))) ?b4 ?b26)
  case main =>
      refine lv_iconst (v := 0) hx hb dX2_countEdits_0 (by decide) ?_
      refine lv_istore_n (lv' := [(2, .int 0), (0, .ref (ad B)), (1, .int x1)]) hx hb dX2_countEdits_1 rfl hl (by decide) rfl (fun ls hl => ?_)
      refine lv_iconst (v := 0) hx hb dX2_countEdits_2 (by decide) ?_
      refine lv_istore_n (lv' := [(3, .int 0), (2, .int 0), (0, .ref (ad B)), (1, .int x1)]) hx hb dX2_countEdits_3 rfl hl (by decide) rfl (fun ls hl => ?_)
      exact h _ _ _ hP hD hS (lv_sub hl [2, 3, 1, 0] rfl)
  case b4 =>
    intro b1 b2 b3 μ h H locs ls hP hD hS hl
    refine lv_iload_n hx hb dX2_countEdits_4 rfl (lv_at hl 3 rfl) ?_
    refine lv_bipush (v := 32) hx hb dX2_countEdits_5 (by decide) ?_
    refine lv_icmp_ge (tgt := 32) hx hb dX2_countEdits_7 (by decide) (fun c1 => ?_) (fun c1 => ?_)
    · have h := h.1 c1
      refine lv_iload_n hx hb dX2_countEdits_32 rfl (lv_at hl 2 rfl) ?_
      exact W.iret (v := b2) hx hb hr (fun t ht hW => ⟨⟨b2, μ, rfl, h, PW.to hK hN hP hD t ht hW⟩, hS.F ht⟩) hS.2.2 dX2_countEdits_33
    · have h := h.2 c1
      refine lv_aload_n hx hb dX2_countEdits_10 rfl (lv_at hl 0 rfl) ?_
      refine zw_get (C := RX2) (T := TX2) (M := 7) (v := .ref (ad (B+2))) hx hb hts hi_X2 hown hK hP (oS hB) rfl 5 (by decide) hw0 rfl dX2_countEdits_11 ?_
      refine lv_iload_n hx hb dX2_countEdits_14 rfl (lv_at hl 1 rfl) ?_
      obtain ⟨hi2, h⟩ := h
      refine zw_aalI hx hb hK hP (rS hB) hi2 dX2_countEdits_15 ?_
      refine W.eq (g2 := F0 m 16 ls ([.ref (ad ((B+3) + (b1 : Int32).toNatClampNeg))])) rfl ?_
      refine lv_iload_n hx hb dX2_countEdits_16 rfl (lv_at hl 3 rfl) ?_
      obtain ⟨hi3, h⟩ := h
      refine zw_iald hx hb hK hP (iSr hB (zw_lt hi2)) hi3 dX2_countEdits_17 ?_
      refine lv_bipush (v := (-2)) hx hb dX2_countEdits_18 (by decide) ?_
      refine lv_icmp_eq (tgt := 26) hx hb dX2_countEdits_20 (by decide) (fun c4 => ?_) (fun c4 => ?_)
      · have h := h.1 c4
        exact h _ _ _ hP hD hS (lv_sub hl [0, 1, 2, 3] rfl)
      · have h := h.2 c4
        obtain ⟨y5, ey5⟩ : ∃ y : Int32, y = b2 + 1 := ⟨_, rfl⟩
        have h := h y5 ey5
        refine lv_iinc (v := y5) (lv' := [(2, .int y5), (0, .ref (ad B)), (1, .int b1), (3, .int b3)]) hx hb dX2_countEdits_23 hl (k := 2) rfl (by rw [ey5]; rfl) (by decide) rfl (fun ls hl => ?_)
        exact h _ _ _ hP hD hS (lv_sub hl [1, 2, 0, 3] rfl)
  case b26 =>
    intro b1 b2 b3 μ h H locs ls hP hD hS hl
    obtain ⟨y6, ey6⟩ : ∃ y : Int32, y = b3 + 1 := ⟨_, rfl⟩
    have h := h y6 ey6
    refine lv_iinc (v := y6) (lv' := [(3, .int y6), (0, .ref (ad B)), (1, .int b1), (2, .int b2)]) hx hb dX2_countEdits_26 hl (k := 3) rfl (by rw [ey6]; rfl) (by decide) rfl (fun ls hl => ?_)
    refine lv_goto (tgt := 4) hx hb dX2_countEdits_29 (by decide) ?_
    exact h _ _ _ hP hD hS (lv_sub hl [1, 2, 3, 0] rfl)
set_option maxHeartbeats 4000000 in
set_option maxRecDepth 100000 in
theorem c_X2_isOn (l : Launch) (D : va_G) (cc : Nat → ClassId) (A : Nat → Prop) (ad : Nat → Nat) (rs : va_W) (B : Nat) (hB : isSetup B) (x1 : Int32) (μ : Mem) (K : Int32 → Mem → Prop) (h : f_X2_isOn B x1 μ K) : Met l yX2_isOn wsX2_isOn ({ frames := 1, cells := 0, slots := 0, locals := 21 }) (va_Pc [.ref (ad B), .int x1] (PW shX 67 D cc A ad rs μ)) (va_Qi K (PW shX 67 D cc A ad rs) A) 0 0 A := by
  refine Met.ofW (cc := cX2_isOn) (maxL := 2) (ret := (some .boolean)) (by decide) rfl ?_
  intro p e s m args below meth c s₁ BB hml hv
  obtain ⟨rfl, hP, hK, hD, hN⟩ := hv
  have hx := BB.exec
  have hb := BB.bytes
  have hr := BB.returns
  have hts := atoms_spec (ws := wsX2_isOn) BB.pre
  have hown : s.vm.findClass RX2 = some m.cls := findClass_of_methodNamed BB.named
  have hlocks := BB.notSynchronized
  have hi_X2 : ∀ w ∈ u_ws RX2 TX2 7, w ∈ wsX2_isOn := by decide +kernel
  have hw0 := hts (.fieldLink RX2 21 "FeatureClashes$Setup" "onSet" "I") (by decide +kernel)
  have hw1 := hts (.initialized RX5) (by decide +kernel)
  have hw2 := hts (.static yX5_hasBit) (by decide +kernel)
  have hS : va_S A s.heap s.heap [] := va_S.rf
  have hl := lv_entry ([.ref (ad B), .int x1]) (n := 2) (Nat.le_of_ble_eq_true rfl)
  rw [lg_entry_eq]
  generalize (lg_sl ([.ref (ad B), .int x1]) ++ List.replicate (2 - (lg_sl ([.ref (ad B), .int x1])).length) Slot.unset).toArray = ls at hl ⊢
  have hl : lv_has ls 2 [(0, .ref (ad B)), (1, .int x1)] := hl
  unfold f_X2_isOn at h
  refine lv_aload_n hx hb dX2_isOn_0 rfl (lv_at hl 0 rfl) ?_
  refine zw_get (C := RX2) (T := TX2) (M := 7) (v := .int (μ.1 B 3)) hx hb hts hi_X2 hown hK hP (oS hB) rfl 3 (by decide) hw0 rfl dX2_isOn_1 ?_
  refine lv_iload_n hx hb dX2_isOn_4 rfl (lv_at hl 1 rfl) ?_
  refine zc_i (zc_runSN (As := [.int (μ.1 B 3), .int x1]) (rest := []) ⟨hx, hb, hml, hown, hts⟩ (c_X5_hasBit l D cc A ad rs (μ.1 B 3) x1 μ _ h) ⟨va_cnB (host := "FeatureClashes") 2 hts gX2_isOn_X5_hasBit_n57 rfl rfl rfl (hN 7 _ rfl) hw1 (by decide +kernel) ⟨Nat.le_of_ble_eq_true rfl, Nat.le_of_ble_eq_true rfl⟩, hw2, trivial⟩ hK hN hP hD rfl hl.1 rfl (Nat.le_of_ble_eq_true rfl) dX2_isOn_5 ⟨Nat.zero_le _, Nat.zero_le _⟩) hS (fun r1 μ2 H locs h hP hD hS => ?_)
  obtain ⟨hz, h⟩ := h
  exact W.zret (ty := .boolean) (v := r1) hx hb hr hz (fun t ht hW => ⟨⟨r1, μ2, rfl, h, PW.to hK hN hP hD t ht hW⟩, hS.F ht⟩) hS.2.2 dX2_isOn_8
set_option maxHeartbeats 4000000 in
set_option maxRecDepth 100000 in
theorem c_X2_stands (l : Launch) (D : va_G) (cc : Nat → ClassId) (A : Nat → Prop) (ad : Nat → Nat) (rs : va_W) (B : Nat) (hB : isSetup B) (x1 : Int32) (x2 : Int32) (μ : Mem) (K : Int32 → Mem → Prop) (h : f_X2_stands B x1 x2 μ K) : Met l yX2_stands wsX2_stands ({ frames := 1, cells := 0, slots := 0, locals := 21 }) (va_Pc [.ref (ad B), .int x1, .int x2] (PW shX 67 D cc A ad rs μ)) (va_Qi K (PW shX 67 D cc A ad rs) A) 0 0 A := by
  refine Met.ofW (cc := cX2_stands) (maxL := 3) (ret := (some .boolean)) (by decide) rfl ?_
  intro p e s m args below meth c s₁ BB hml hv
  obtain ⟨rfl, hP, hK, hD, hN⟩ := hv
  have hx := BB.exec
  have hb := BB.bytes
  have hr := BB.returns
  have hts := atoms_spec (ws := wsX2_stands) BB.pre
  have hown : s.vm.findClass RX2 = some m.cls := findClass_of_methodNamed BB.named
  have hlocks := BB.notSynchronized
  have hi_X2 : ∀ w ∈ u_ws RX2 TX2 7, w ∈ wsX2_stands := by decide +kernel
  have hw0 := hts (.fieldLink RX2 33 "FeatureClashes$Setup" "earlier" "[I") (by decide +kernel)
  have hw1 := hts (.initialized RX5) (by decide +kernel)
  have hw2 := hts (.static yX5_hasBit) (by decide +kernel)
  have hS : va_S A s.heap s.heap [] := va_S.rf
  have hl := lv_entry ([.ref (ad B), .int x1, .int x2]) (n := 3) (Nat.le_of_ble_eq_true rfl)
  rw [lg_entry_eq]
  generalize (lg_sl ([.ref (ad B), .int x1, .int x2]) ++ List.replicate (3 - (lg_sl ([.ref (ad B), .int x1, .int x2])).length) Slot.unset).toArray = ls at hl ⊢
  have hl : lv_has ls 3 [(0, .ref (ad B)), (1, .int x1), (2, .int x2)] := hl
  unfold f_X2_stands at h
  refine lv_aload_n hx hb dX2_stands_0 rfl (lv_at hl 0 rfl) ?_
  refine zw_get (C := RX2) (T := TX2) (M := 7) (v := .ref (ad (B+9))) hx hb hts hi_X2 hown hK hP (oS hB) rfl 6 (by decide) hw0 rfl dX2_stands_1 ?_
  refine lv_iload_n hx hb dX2_stands_4 rfl (lv_at hl 2 rfl) ?_
  obtain ⟨hi1, h⟩ := h
  refine zw_iald hx hb hK hP (iS9 hB) hi1 dX2_stands_5 ?_
  refine lv_iload_n hx hb dX2_stands_6 rfl (lv_at hl 1 rfl) ?_
  refine zc_i (zc_runSN (As := [.int (μ.1 (B+9) (x2 : Int32).toNatClampNeg), .int x1]) (rest := []) ⟨hx, hb, hml, hown, hts⟩ (c_X5_hasBit l D cc A ad rs (μ.1 (B+9) (x2 : Int32).toNatClampNeg) x1 μ _ h) ⟨va_cnB (host := "FeatureClashes") 2 hts gX2_stands_X5_hasBit_n57 rfl rfl rfl (hN 7 _ rfl) hw1 (by decide +kernel) ⟨Nat.le_of_ble_eq_true rfl, Nat.le_of_ble_eq_true rfl⟩, hw2, trivial⟩ hK hN hP hD rfl hl.1 rfl (Nat.le_of_ble_eq_true rfl) dX2_stands_7 ⟨Nat.zero_le _, Nat.zero_le _⟩) hS (fun r2 μ3 H locs h hP hD hS => ?_)
  obtain ⟨hz, h⟩ := h
  exact W.zret (ty := .boolean) (v := r2) hx hb hr hz (fun t ht hW => ⟨⟨r2, μ3, rfl, h, PW.to hK hN hP hD t ht hW⟩, hS.F ht⟩) hS.2.2 dX2_stands_10
set_option maxHeartbeats 4000000 in
set_option maxRecDepth 100000 in
theorem c_X2_prefer (l : Launch) (D : va_G) (cc : Nat → ClassId) (A : Nat → Prop) (ad : Nat → Nat) (rs : va_W) (B : Nat) (hB : isSetup B) (x1 : Int32) (x2 : Int32) (μ : Mem) (K : Mem → Prop) (h : f_X2_prefer B x1 x2 μ K) : Met l yX2_prefer wsX2_prefer ({ frames := 2, cells := 0, slots := 0, locals := 43 }) (va_Pc [.ref (ad B), .int x1, .int x2] (PW shX 67 D cc A ad rs μ)) (va_Qv K (PW shX 67 D cc A ad rs) A) 0 0 A := by
  refine Met.ofW (cc := cX2_prefer) (maxL := 5) (ret := none) (by decide) rfl ?_
  intro p e s m args below meth c s₁ BB hml hv
  obtain ⟨rfl, hP, hK, hD, hN⟩ := hv
  have hx := BB.exec
  have hb := BB.bytes
  have hr := BB.returns
  have hts := atoms_spec (ws := wsX2_prefer) BB.pre
  have hown : s.vm.findClass RX2 = some m.cls := findClass_of_methodNamed BB.named
  have hlocks := BB.notSynchronized
  have hi_X2 : ∀ w ∈ u_ws RX2 TX2 7, w ∈ wsX2_prefer := by decide +kernel
  have hw0 := hts (.fieldLink RX2 33 "FeatureClashes$Setup" "earlier" "[I") (by decide +kernel)
  have hS : va_S A s.heap s.heap [] := va_S.rf
  have hl := lv_entry ([.ref (ad B), .int x1, .int x2]) (n := 5) (Nat.le_of_ble_eq_true rfl)
  rw [lg_entry_eq]
  generalize (lg_sl ([.ref (ad B), .int x1, .int x2]) ++ List.replicate (5 - (lg_sl ([.ref (ad B), .int x1, .int x2])).length) Slot.unset).toArray = ls at hl ⊢
  have hl : lv_has ls 5 [(0, .ref (ad B)), (1, .int x1), (2, .int x2)] := hl
  unfold f_X2_prefer at h
  refine (fun h => ?main) (h (fun b2 b3 b4 μ => ∀ (H1 : Heap) (locs : List Loc) (ls : Array Slot), va_P D vwCl (wW shX 67 cc ad μ ++ rs) H1 → va_D A (wW shX 67 cc ad μ ++ rs) → va_S A s.heap H1 locs → lv_has ls 5 [(0, .ref (ad B)), (2, .int b2), (3, .int b3), (4, .int b4)] → W p l e (headSpec wsX2_prefer ({ frames := 2, cells := 0, slots := 0, locals := 43 })).room s m ([.ref (ad B), .int x1, .int x2] : List Value).toArray below meth c H1 locs 0 0 (MQ below (va_Qv K (PW shX 67 D cc A ad rs) A) ([.ref (ad B), .int x1, .int x2] : List Value).toArray s 0 0 A) (F0 m 14 ls ([]))) (fun b2 b3 b4 μ => ∀ (H1 : Heap) (locs : List Loc) (ls : Array Slot), va_P D vwCl (wW shX 67 cc ad μ ++ rs) H1 → va_D A (wW shX 67 cc ad μ ++ rs) → va_S A s.heap H1 locs → lv_has ls 5 [(0, .ref (ad B)), (2, .int b2), (3, .int b3), (4, .int b4)] → W p l e (headSpec wsX2_prefer ({ frames := 2, cells := 0, slots := 0, locals := 43 })).room s m ([.ref (ad B), .int x1, .int x2] : List Value).toArray below meth c H1 locs 0 0 (MQ below (va_Qv K (PW shX 67 D cc A ad rs) A) ([.ref (ad B), .int x1, .int x2] : List Value).toArray s 0 0 A) (F0 m 37 ls ([]))) (fun b2 b3 b4 μ => ∀ (H1 : Heap) (locs : List Loc) (ls : Array Slot), va_P D vwCl (wW shX 67 cc ad μ ++ rs) H1 → va_D A (wW shX 67 cc ad μ ++ rs) → va_S A s.heap H1 locs → lv_has ls 5 [(0, .ref (ad B)), (2, .int b2), (3, .int b3), (4, .int b4)] → W p l e (headSpec wsX2_prefer ({ frames := 2, cells := 0, slots := 0, locals := 43 })).room s m ([.ref (ad B), .int x1, .int x2] : List Value).toArray below meth c H1 locs 0 0 (MQ below (va_Qv K (PW shX 67 D cc A ad rs) A) ([.ref (ad B), .int x1, .int x2] : List Value).toArray s 0 0 A) (F0 m 48 ls ([]))) ?b14 ?b37 ?b48)
  case main =>
      refine lv_aload_n hx hb dX2_prefer_0 rfl (lv_at hl 0 rfl) ?_
      refine zw_get (C := RX2) (T := TX2) (M := 7) (v := .ref (ad (B+9))) hx hb hts hi_X2 hown hK hP (oS hB) rfl 6 (by decide) hw0 rfl dX2_prefer_1 ?_
      refine lv_iload_n hx hb dX2_prefer_4 rfl (lv_at hl 1 rfl) ?_
      obtain ⟨hi1, h⟩ := h
      refine zw_iald hx hb hK hP (iS9 hB) hi1 dX2_prefer_5 ?_
      refine lv_iconst (v := 1) hx hb dX2_prefer_6 (by decide) ?_
      refine lv_iload_n hx hb dX2_prefer_7 rfl (lv_at hl 1 rfl) ?_
      refine lv_ishl hx hb dX2_prefer_8 ?_
      refine lv_ior hx hb dX2_prefer_9 ?_
      refine lv_topi (fun y2 ey2 => ?_)
      have h := h y2 ey2
      refine lv_istore_n (lv' := [(3, .int y2), (0, .ref (ad B)), (1, .int x1), (2, .int x2)]) hx hb dX2_prefer_10 rfl hl (by decide) rfl (fun ls hl => ?_)
      refine lv_iconst (v := 0) hx hb dX2_prefer_11 (by decide) ?_
      refine lv_istore (lv' := [(4, .int 0), (3, .int y2), (0, .ref (ad B)), (1, .int x1), (2, .int x2)]) hx hb dX2_prefer_12 hl (by decide) rfl (fun ls hl => ?_)
      exact h _ _ _ hP hD hS (lv_sub hl [2, 4, 1, 0] rfl)
  case b14 =>
    intro b2 b3 b4 μ h H locs ls hP hD hS hl
    refine lv_iload hx hb dX2_prefer_14 (lv_at hl 3 rfl) ?_
    refine lv_bipush (v := 6) hx hb dX2_prefer_16 (by decide) ?_
    refine lv_icmp_ge (tgt := 54) hx hb dX2_prefer_18 (by decide) (fun c3 => ?_) (fun c3 => ?_)
    · have h := h.1 c3
      exact W.vret hx hb hr (fun t ht hW => ⟨⟨μ, rfl, h, PW.to hK hN hP hD t ht hW⟩, hS.F ht⟩) hS.2.2 dX2_prefer_54
    · have h := h.2 c3
      refine lv_iload hx hb dX2_prefer_21 (lv_at hl 3 rfl) ?_
      refine lv_iload_n hx hb dX2_prefer_23 rfl (lv_at hl 1 rfl) ?_
      refine lv_icmp_eq (tgt := 37) hx hb dX2_prefer_24 (by decide) (fun c4 => ?_) (fun c4 => ?_)
      · have h := h.1 c4
        exact h _ _ _ hP hD hS (lv_sub hl [0, 1, 2, 3] rfl)
      · have h := h.2 c4
        refine lv_aload_n hx hb dX2_prefer_27 rfl (lv_at hl 0 rfl) ?_
        refine lv_iload_n hx hb dX2_prefer_28 rfl (lv_at hl 1 rfl) ?_
        refine lv_iload hx hb dX2_prefer_29 (lv_at hl 3 rfl) ?_
        refine zc_i (zc_runV (As := [.int b2, .int b4]) (rest := []) ⟨hx, hb, hml, hown, hts⟩ (c_X2_stands l D cc A ad rs B hB b2 b4 μ _ h) (cwV 2 hts gX2_prefer_X2_stands rfl rfl rfl (by decide +kernel) ⟨Nat.le_of_ble_eq_true rfl, Nat.le_of_ble_eq_true rfl⟩) (oS hB) rfl hK hN hP hD rfl hl.1 rfl (Nat.le_of_ble_eq_true rfl) dX2_prefer_31 ⟨Nat.zero_le _, Nat.zero_le _⟩) hS (fun r5 μ6 H locs h hP hD hS => ?_)
        refine lv_if_eq (tgt := 48) hx hb dX2_prefer_34 (by decide) (fun c7 => ?_) (fun c7 => ?_)
        · have h := h.1 c7
          exact h _ _ _ hP hD hS (lv_sub hl [0, 1, 2, 3] rfl)
        · have h := h.2 c7
          exact h _ _ _ hP hD hS (lv_sub hl [0, 1, 2, 3] rfl)
  case b37 =>
    intro b2 b3 b4 μ h H locs ls hP hD hS hl
    refine lv_aload_n hx hb dX2_prefer_37 rfl (lv_at hl 0 rfl) ?_
    refine zw_get (C := RX2) (T := TX2) (M := 7) (v := .ref (ad (B+9))) hx hb hts hi_X2 hown hK hP (oS hB) rfl 6 (by decide) hw0 rfl dX2_prefer_38 ?_
    refine lv_iload hx hb dX2_prefer_41 (lv_at hl 3 rfl) ?_
    refine lv_dup2_11 hx hb dX2_prefer_43 rfl rfl ?_
    obtain ⟨hi8, h⟩ := h
    refine zw_iald hx hb hK hP (iS9 hB) hi8 dX2_prefer_44 ?_
    refine lv_iload_n hx hb dX2_prefer_45 rfl (lv_at hl 2 rfl) ?_
    refine lv_ior hx hb dX2_prefer_46 ?_
    obtain ⟨hi9, h⟩ := h
    refine zw_iast hx hb hK hP hD hS (iS9 hB) hi9 dX2_prefer_47 (fun μ10 H locs eμ10 hP hD hS => ?_)
    have h := h μ10 eμ10
    exact h _ _ _ hP hD hS (lv_sub hl [0, 1, 2, 3] rfl)
  case b48 =>
    intro b2 b3 b4 μ h H locs ls hP hD hS hl
    obtain ⟨y11, ey11⟩ : ∃ y : Int32, y = b4 + 1 := ⟨_, rfl⟩
    have h := h y11 ey11
    refine lv_iinc (v := y11) (lv' := [(4, .int y11), (0, .ref (ad B)), (2, .int b2), (3, .int b3)]) hx hb dX2_prefer_48 hl (k := 3) rfl (by rw [ey11]; rfl) (by decide) rfl (fun ls hl => ?_)
    refine lv_goto (tgt := 14) hx hb dX2_prefer_51 (by decide) ?_
    exact h _ _ _ hP hD hS (lv_sub hl [1, 2, 3, 0] rfl)
set_option maxHeartbeats 4000000 in
set_option maxRecDepth 100000 in
theorem c_J6_bitCount_0f7a4 (l : Launch) (D : va_G) (cc : Nat → ClassId) (A : Nat → Prop) (ad : Nat → Nat) (rs : va_W) (x0 : Int32) (μ : Mem) (K : Int32 → Mem → Prop) (h : f_J6_bitCount_0f7a4 x0 μ K) : Met l yJ6_bitCount_0f7a4 wsJ6_bitCount_0f7a4 ({ frames := 0, cells := 0, slots := 0, locals := 0 }) (va_Pc [.int x0] (PW shX 67 D cc A ad rs μ)) (va_Qi K (PW shX 67 D cc A ad rs) A) 0 0 A := by
  refine Met.ofW (cc := cJ6_bitCount_0f7a4) (maxL := 1) (ret := (some .int)) (by decide) rfl ?_
  intro p e s m args below meth c s₁ BB hml hv
  obtain ⟨rfl, hP, hK, hD, hN⟩ := hv
  have hx := BB.exec
  have hb := BB.bytes
  have hr := BB.returns
  have hts := atoms_spec (ws := wsJ6_bitCount_0f7a4) BB.pre
  have hown : s.vm.findClass RJ6 = some m.cls := findClass_of_methodNamed BB.named
  have hlocks := BB.notSynchronized
  have hw0 := hts (.constant RJ6 265 (1431655765)) (by decide +kernel)
  have hw1 := hts (.constant RJ6 266 (858993459)) (by decide +kernel)
  have hw2 := hts (.constant RJ6 267 (252645135)) (by decide +kernel)
  have hS : va_S A s.heap s.heap [] := va_S.rf
  have hl := lv_entry ([.int x0]) (n := 1) (Nat.le_of_ble_eq_true rfl)
  rw [lg_entry_eq]
  generalize (lg_sl ([.int x0]) ++ List.replicate (1 - (lg_sl ([.int x0])).length) Slot.unset).toArray = ls at hl ⊢
  have hl : lv_has ls 1 [(0, .int x0)] := hl
  unfold f_J6_bitCount_0f7a4 at h
  refine lv_iload_n hx hb dJ6_bitCount_0f7a4_0 rfl (lv_at hl 0 rfl) ?_
  refine lv_iload_n hx hb dJ6_bitCount_0f7a4_1 rfl (lv_at hl 0 rfl) ?_
  refine lv_iconst (v := 1) hx hb dJ6_bitCount_0f7a4_2 (by decide) ?_
  refine lv_iushr (v := (x0.toUInt32 >>> ((1 : Int32).toUInt32 &&& Int32.toUInt32 31)).toInt32) hx hb dJ6_bitCount_0f7a4_3 rfl ?_
  refine lv_ldcw (v := 1431655765) hx hb hown hw0 dJ6_bitCount_0f7a4_4 ?_
  refine lv_iand hx hb dJ6_bitCount_0f7a4_7 ?_
  refine lv_isub hx hb dJ6_bitCount_0f7a4_8 ?_
  refine lv_topi (fun y1 ey1 => ?_)
  have h := h y1 ey1
  refine lv_istore_n (lv' := [(0, .int y1)]) hx hb dJ6_bitCount_0f7a4_9 rfl hl (by decide) rfl (fun ls hl => ?_)
  refine lv_iload_n hx hb dJ6_bitCount_0f7a4_10 rfl (lv_at hl 0 rfl) ?_
  refine lv_ldcw (v := 858993459) hx hb hown hw1 dJ6_bitCount_0f7a4_11 ?_
  refine lv_iand hx hb dJ6_bitCount_0f7a4_14 ?_
  refine lv_iload_n hx hb dJ6_bitCount_0f7a4_15 rfl (lv_at hl 0 rfl) ?_
  refine lv_iconst (v := 2) hx hb dJ6_bitCount_0f7a4_16 (by decide) ?_
  refine lv_iushr (v := (y1.toUInt32 >>> ((2 : Int32).toUInt32 &&& Int32.toUInt32 31)).toInt32) hx hb dJ6_bitCount_0f7a4_17 rfl ?_
  refine lv_ldcw (v := 858993459) hx hb hown hw1 dJ6_bitCount_0f7a4_18 ?_
  refine lv_iand hx hb dJ6_bitCount_0f7a4_21 ?_
  refine lv_iadd hx hb dJ6_bitCount_0f7a4_22 ?_
  refine lv_topi (fun y2 ey2 => ?_)
  have h := h y2 ey2
  refine lv_istore_n (lv' := [(0, .int y2)]) hx hb dJ6_bitCount_0f7a4_23 rfl hl (by decide) rfl (fun ls hl => ?_)
  refine lv_iload_n hx hb dJ6_bitCount_0f7a4_24 rfl (lv_at hl 0 rfl) ?_
  refine lv_iload_n hx hb dJ6_bitCount_0f7a4_25 rfl (lv_at hl 0 rfl) ?_
  refine lv_iconst (v := 4) hx hb dJ6_bitCount_0f7a4_26 (by decide) ?_
  refine lv_iushr (v := (y2.toUInt32 >>> ((4 : Int32).toUInt32 &&& Int32.toUInt32 31)).toInt32) hx hb dJ6_bitCount_0f7a4_27 rfl ?_
  refine lv_iadd hx hb dJ6_bitCount_0f7a4_28 ?_
  refine lv_ldcw (v := 252645135) hx hb hown hw2 dJ6_bitCount_0f7a4_29 ?_
  refine lv_iand hx hb dJ6_bitCount_0f7a4_32 ?_
  refine lv_topi (fun y3 ey3 => ?_)
  have h := h y3 ey3
  refine lv_istore_n (lv' := [(0, .int y3)]) hx hb dJ6_bitCount_0f7a4_33 rfl hl (by decide) rfl (fun ls hl => ?_)
  refine lv_iload_n hx hb dJ6_bitCount_0f7a4_34 rfl (lv_at hl 0 rfl) ?_
  refine lv_iload_n hx hb dJ6_bitCount_0f7a4_35 rfl (lv_at hl 0 rfl) ?_
  refine lv_bipush (v := 8) hx hb dJ6_bitCount_0f7a4_36 (by decide) ?_
  refine lv_iushr (v := (y3.toUInt32 >>> ((8 : Int32).toUInt32 &&& Int32.toUInt32 31)).toInt32) hx hb dJ6_bitCount_0f7a4_38 rfl ?_
  refine lv_iadd hx hb dJ6_bitCount_0f7a4_39 ?_
  refine lv_topi (fun y4 ey4 => ?_)
  have h := h y4 ey4
  refine lv_istore_n (lv' := [(0, .int y4)]) hx hb dJ6_bitCount_0f7a4_40 rfl hl (by decide) rfl (fun ls hl => ?_)
  refine lv_iload_n hx hb dJ6_bitCount_0f7a4_41 rfl (lv_at hl 0 rfl) ?_
  refine lv_iload_n hx hb dJ6_bitCount_0f7a4_42 rfl (lv_at hl 0 rfl) ?_
  refine lv_bipush (v := 16) hx hb dJ6_bitCount_0f7a4_43 (by decide) ?_
  refine lv_iushr (v := (y4.toUInt32 >>> ((16 : Int32).toUInt32 &&& Int32.toUInt32 31)).toInt32) hx hb dJ6_bitCount_0f7a4_45 rfl ?_
  refine lv_iadd hx hb dJ6_bitCount_0f7a4_46 ?_
  refine lv_topi (fun y5 ey5 => ?_)
  have h := h y5 ey5
  refine lv_istore_n (lv' := [(0, .int y5)]) hx hb dJ6_bitCount_0f7a4_47 rfl hl (by decide) rfl (fun ls hl => ?_)
  refine lv_iload_n hx hb dJ6_bitCount_0f7a4_48 rfl (lv_at hl 0 rfl) ?_
  refine lv_bipush (v := 63) hx hb dJ6_bitCount_0f7a4_49 (by decide) ?_
  refine lv_iand hx hb dJ6_bitCount_0f7a4_51 ?_
  exact W.iret (v := y5 &&& 63) hx hb hr (fun t ht hW => ⟨⟨y5 &&& 63, μ, rfl, h, PW.to hK hN hP hD t ht hW⟩, hS.F ht⟩) hS.2.2 dJ6_bitCount_0f7a4_52
set_option maxHeartbeats 4000000 in
set_option maxRecDepth 100000 in
theorem c_X2_countPriorities (l : Launch) (D : va_G) (cc : Nat → ClassId) (A : Nat → Prop) (ad : Nat → Nat) (rs : va_W) (B : Nat) (hB : isSetup B) (μ : Mem) (K : Int32 → Mem → Prop) (h : f_X2_countPriorities B μ K) : Met l yX2_countPriorities wsX2_countPriorities ({ frames := 1, cells := 0, slots := 0, locals := 20 }) (va_Pc [.ref (ad B)] (PW shX 67 D cc A ad rs μ)) (va_Qi K (PW shX 67 D cc A ad rs) A) 0 0 A := by
  refine Met.ofW (cc := cX2_countPriorities) (maxL := 3) (ret := (some .int)) (by decide) rfl ?_
  intro p e s m args below meth c s₁ BB hml hv
  obtain ⟨rfl, hP, hK, hD, hN⟩ := hv
  have hx := BB.exec
  have hb := BB.bytes
  have hr := BB.returns
  have hts := atoms_spec (ws := wsX2_countPriorities) BB.pre
  have hown : s.vm.findClass RX2 = some m.cls := findClass_of_methodNamed BB.named
  have hlocks := BB.notSynchronized
  have hi_X2 : ∀ w ∈ u_ws RX2 TX2 7, w ∈ wsX2_countPriorities := by decide +kernel
  have hw0 := hts (.fieldLink RX2 33 "FeatureClashes$Setup" "earlier" "[I") (by decide +kernel)
  have hS : va_S A s.heap s.heap [] := va_S.rf
  have hl := lv_entry ([.ref (ad B)]) (n := 3) (Nat.le_of_ble_eq_true rfl)
  rw [lg_entry_eq]
  generalize (lg_sl ([.ref (ad B)]) ++ List.replicate (3 - (lg_sl ([.ref (ad B)])).length) Slot.unset).toArray = ls at hl ⊢
  have hl : lv_has ls 3 [(0, .ref (ad B))] := hl
  unfold f_X2_countPriorities at h
  refine (fun h => ?main) (h (fun b1 b2 μ => ∀ (H1 : Heap) (locs : List Loc) (ls : Array Slot), va_P D vwCl (wW shX 67 cc ad μ ++ rs) H1 → va_D A (wW shX 67 cc ad μ ++ rs) → va_S A s.heap H1 locs → lv_has ls 3 [(0, .ref (ad B)), (1, .int b1), (2, .int b2)] → W p l e (headSpec wsX2_countPriorities ({ frames := 1, cells := 0, slots := 0, locals := 20 })).room s m ([.ref (ad B)] : List Value).toArray below meth c H1 locs 0 0 (MQ below (va_Qi K (PW shX 67 D cc A ad rs) A) ([.ref (ad B)] : List Value).toArray s 0 0 A) (F0 m 4 ls ([]))) ?b4)
  case main =>
      refine lv_iconst (v := 0) hx hb dX2_countPriorities_0 (by decide) ?_
      refine lv_istore_n (lv' := [(1, .int 0), (0, .ref (ad B))]) hx hb dX2_countPriorities_1 rfl hl (by decide) rfl (fun ls hl => ?_)
      refine lv_iconst (v := 0) hx hb dX2_countPriorities_2 (by decide) ?_
      refine lv_istore_n (lv' := [(2, .int 0), (1, .int 0), (0, .ref (ad B))]) hx hb dX2_countPriorities_3 rfl hl (by decide) rfl (fun ls hl => ?_)
      exact h _ _ _ hP hD hS (lv_sub hl [2, 1, 0] rfl)
  case b4 =>
    intro b1 b2 μ h H locs ls hP hD hS hl
    refine lv_iload_n hx hb dX2_countPriorities_4 rfl (lv_at hl 2 rfl) ?_
    refine lv_bipush (v := 6) hx hb dX2_countPriorities_5 (by decide) ?_
    refine lv_icmp_ge (tgt := 28) hx hb dX2_countPriorities_7 (by decide) (fun c1 => ?_) (fun c1 => ?_)
    · have h := h.1 c1
      refine lv_iload_n hx hb dX2_countPriorities_28 rfl (lv_at hl 1 rfl) ?_
      exact W.iret (v := b1) hx hb hr (fun t ht hW => ⟨⟨b1, μ, rfl, h, PW.to hK hN hP hD t ht hW⟩, hS.F ht⟩) hS.2.2 dX2_countPriorities_29
    · have h := h.2 c1
      refine lv_iload_n hx hb dX2_countPriorities_10 rfl (lv_at hl 1 rfl) ?_
      refine lv_aload_n hx hb dX2_countPriorities_11 rfl (lv_at hl 0 rfl) ?_
      refine zw_get (C := RX2) (T := TX2) (M := 7) (v := .ref (ad (B+9))) hx hb hts hi_X2 hown hK hP (oS hB) rfl 6 (by decide) hw0 rfl dX2_countPriorities_12 ?_
      refine lv_iload_n hx hb dX2_countPriorities_15 rfl (lv_at hl 2 rfl) ?_
      obtain ⟨hi2, h⟩ := h
      refine zw_iald hx hb hK hP (iS9 hB) hi2 dX2_countPriorities_16 ?_
      refine zc_i (zc_runS (As := [.int (μ.1 (B+9) (b2 : Int32).toNatClampNeg)]) (rest := [.int b1]) ⟨hx, hb, hml, hown, hts⟩ (c_J6_bitCount_0f7a4 l D cc A ad rs (μ.1 (B+9) (b2 : Int32).toNatClampNeg) μ _ h) (va_cwS 1 hts gX2_countPriorities_J6_bitCount_0f7a4 rfl rfl rfl (by decide +kernel) ⟨Nat.le_of_ble_eq_true rfl, Nat.le_of_ble_eq_true rfl⟩) hK hN hP hD rfl hl.1 rfl (Nat.le_of_ble_eq_true rfl) dX2_countPriorities_17 ⟨Nat.zero_le _, Nat.zero_le _⟩) hS (fun r3 μ4 H locs h hP hD hS => ?_)
      refine lv_iadd hx hb dX2_countPriorities_20 ?_
      refine lv_topi (fun y5 ey5 => ?_)
      have h := h y5 ey5
      refine lv_istore_n (lv' := [(1, .int y5), (0, .ref (ad B)), (2, .int b2)]) hx hb dX2_countPriorities_21 rfl hl (by decide) rfl (fun ls hl => ?_)
      obtain ⟨y6, ey6⟩ : ∃ y : Int32, y = b2 + 1 := ⟨_, rfl⟩
      have h := h y6 ey6
      refine lv_iinc (v := y6) (lv' := [(2, .int y6), (1, .int y5), (0, .ref (ad B))]) hx hb dX2_countPriorities_22 hl (k := 2) rfl (by rw [ey6]; rfl) (by decide) rfl (fun ls hl => ?_)
      refine lv_goto (tgt := 4) hx hb dX2_countPriorities_25 (by decide) ?_
      exact h _ _ _ hP hD hS (lv_sub hl [2, 1, 0] rfl)
set_option maxHeartbeats 4000000 in
set_option maxRecDepth 100000 in
theorem c_X4_takesState (l : Launch) (D : va_G) (cc : Nat → ClassId) (A : Nat → Prop) (ad : Nat → Nat) (rs : va_W) (x1 : Int32) (μ : Mem) (K : Int32 → Mem → Prop) (h : f_X4_takesState x1 μ K) : Met l yX4_takesState wsX4_takesState ({ frames := 0, cells := 0, slots := 0, locals := 0 }) (va_Pc [.ref (ad 33), .int x1] (PW shX 67 D cc A ad rs μ)) (va_Qi K (PW shX 67 D cc A ad rs) A) 0 0 A := by
  refine Met.ofW (cc := cX4_takesState) (maxL := 2) (ret := (some .boolean)) (by decide) rfl ?_
  intro p e s m args below meth c s₁ BB hml hv
  obtain ⟨rfl, hP, hK, hD, hN⟩ := hv
  have hx := BB.exec
  have hb := BB.bytes
  have hr := BB.returns
  have hts := atoms_spec (ws := wsX4_takesState) BB.pre
  have hown : s.vm.findClass RX4 = some m.cls := findClass_of_methodNamed BB.named
  have hlocks := BB.notSynchronized
  have hi_X4 : ∀ w ∈ u_ws RX4 TX4 10, w ∈ wsX4_takesState := by decide +kernel
  have hw0 := hts (.fieldLink RX4 34 "FeatureClashes$Text" "state" "I") (by decide +kernel)
  have hw1 := hts (.fieldLink RX4 31 "FeatureClashes$Text" "step" "I") (by decide +kernel)
  have hw2 := hts (.fieldLink RX4 25 "FeatureClashes$Text" "states" "I") (by decide +kernel)
  have hS : va_S A s.heap s.heap [] := va_S.rf
  have hl := lv_entry ([.ref (ad 33), .int x1]) (n := 2) (Nat.le_of_ble_eq_true rfl)
  rw [lg_entry_eq]
  generalize (lg_sl ([.ref (ad 33), .int x1]) ++ List.replicate (2 - (lg_sl ([.ref (ad 33), .int x1])).length) Slot.unset).toArray = ls at hl ⊢
  have hl : lv_has ls 2 [(0, .ref (ad 33)), (1, .int x1)] := hl
  unfold f_X4_takesState at h
  refine lv_aload_n hx hb dX4_takesState_0 rfl (lv_at hl 0 rfl) ?_
  refine lv_iload_n hx hb dX4_takesState_1 rfl (lv_at hl 1 rfl) ?_
  refine lv_bipush (v := 48) hx hb dX4_takesState_2 (by decide) ?_
  refine lv_isub hx hb dX4_takesState_4 ?_
  refine zw_put (C := RX4) (T := TX4) (M := 10) hx hb hts hi_X4 tyX4 tyX4_ok nmX4 hown hK hP hD hS kX_33 rfl 7 (by decide) hw0 rfl rfl (Nat.le_of_ble_eq_true rfl) rfl dX4_takesState_5 (fun μ1 H locs eμ1 hP hD hS => ?_)
  have h := h μ1 eμ1
  refine lv_aload_n hx hb dX4_takesState_8 rfl (lv_at hl 0 rfl) ?_
  refine lv_iconst (v := 1) hx hb dX4_takesState_9 (by decide) ?_
  refine zw_put (C := RX4) (T := TX4) (M := 10) hx hb hts hi_X4 tyX4 tyX4_ok nmX4 hown hK hP hD hS kX_33 rfl 6 (by decide) hw1 rfl rfl (Nat.le_of_ble_eq_true rfl) rfl dX4_takesState_10 (fun μ2 H locs eμ2 hP hD hS => ?_)
  have h := h μ2 eμ2
  refine lv_aload_n hx hb dX4_takesState_13 rfl (lv_at hl 0 rfl) ?_
  refine zw_get (C := RX4) (T := TX4) (M := 10) (v := .int (μ2.1 33 7)) hx hb hts hi_X4 hown hK hP kX_33 rfl 7 (by decide) hw0 rfl dX4_takesState_14 ?_
  refine lv_if_lt (tgt := 35) hx hb dX4_takesState_17 (by decide) (fun c3 => ?_) (fun c3 => ?_)
  · have h := h.1 c3
    refine lv_iconst (v := 0) hx hb dX4_takesState_35 (by decide) ?_
    exact W.zret (ty := .boolean) (v := 0) hx hb hr rfl (fun t ht hW => ⟨⟨0, μ2, rfl, h, PW.to hK hN hP hD t ht hW⟩, hS.F ht⟩) hS.2.2 dX4_takesState_36
  · have h := h.2 c3
    refine lv_aload_n hx hb dX4_takesState_20 rfl (lv_at hl 0 rfl) ?_
    refine zw_get (C := RX4) (T := TX4) (M := 10) (v := .int (μ2.1 33 7)) hx hb hts hi_X4 hown hK hP kX_33 rfl 7 (by decide) hw0 rfl dX4_takesState_21 ?_
    refine lv_aload_n hx hb dX4_takesState_24 rfl (lv_at hl 0 rfl) ?_
    refine zw_get (C := RX4) (T := TX4) (M := 10) (v := .int (μ2.1 33 4)) hx hb hts hi_X4 hown hK hP kX_33 rfl 4 (by decide) hw2 rfl dX4_takesState_25 ?_
    refine lv_icmp_ge (tgt := 35) hx hb dX4_takesState_28 (by decide) (fun c4 => ?_) (fun c4 => ?_)
    · have h := h.1 c4
      refine lv_iconst (v := 0) hx hb dX4_takesState_35 (by decide) ?_
      exact W.zret (ty := .boolean) (v := 0) hx hb hr rfl (fun t ht hW => ⟨⟨0, μ2, rfl, h, PW.to hK hN hP hD t ht hW⟩, hS.F ht⟩) hS.2.2 dX4_takesState_36
    · have h := h.2 c4
      refine lv_iconst (v := 1) hx hb dX4_takesState_31 (by decide) ?_
      refine lv_goto (tgt := 36) hx hb dX4_takesState_32 (by decide) ?_
      exact W.zret (ty := .boolean) (v := 1) hx hb hr rfl (fun t ht hW => ⟨⟨1, μ2, rfl, h, PW.to hK hN hP hD t ht hW⟩, hS.F ht⟩) hS.2.2 dX4_takesState_36
set_option maxHeartbeats 4000000 in
set_option maxRecDepth 100000 in
theorem c_X4_takesLetter (l : Launch) (D : va_G) (cc : Nat → ClassId) (A : Nat → Prop) (ad : Nat → Nat) (rs : va_W) (x1 : Int32) (μ : Mem) (K : Int32 → Mem → Prop) (h : f_X4_takesLetter x1 μ K) : Met l yX4_takesLetter wsX4_takesLetter ({ frames := 1, cells := 0, slots := 0, locals := 21 }) (va_Pc [.ref (ad 33), .int x1] (PW shX 67 D cc A ad rs μ)) (va_Qi K (PW shX 67 D cc A ad rs) A) 0 0 A := by
  refine Met.ofW (cc := cX4_takesLetter) (maxL := 3) (ret := (some .boolean)) (by decide) rfl ?_
  intro p e s m args below meth c s₁ BB hml hv
  obtain ⟨rfl, hP, hK, hD, hN⟩ := hv
  have hx := BB.exec
  have hb := BB.bytes
  have hr := BB.returns
  have hts := atoms_spec (ws := wsX4_takesLetter) BB.pre
  have hown : s.vm.findClass RX4 = some m.cls := findClass_of_methodNamed BB.named
  have hlocks := BB.notSynchronized
  have hi_X4 : ∀ w ∈ u_ws RX4 TX4 10, w ∈ wsX4_takesLetter := by decide +kernel
  have hw0 := hts (.fieldLink RX4 28 "FeatureClashes$Text" "letters" "I") (by decide +kernel)
  have hw1 := hts (.fieldLink RX4 34 "FeatureClashes$Text" "state" "I") (by decide +kernel)
  have hw2 := hts (.initialized RX5) (by decide +kernel)
  have hw3 := hts (.static yX5_cellOf) (by decide +kernel)
  have hw4 := hts (.fieldLink RX4 37 "FeatureClashes$Text" "cell" "I") (by decide +kernel)
  have hw5 := hts (.fieldLink RX4 31 "FeatureClashes$Text" "step" "I") (by decide +kernel)
  have hw6 := hts (.fieldLink RX4 19 "FeatureClashes$Text" "edits" "[I") (by decide +kernel)
  have hS : va_S A s.heap s.heap [] := va_S.rf
  have hl := lv_entry ([.ref (ad 33), .int x1]) (n := 3) (Nat.le_of_ble_eq_true rfl)
  rw [lg_entry_eq]
  generalize (lg_sl ([.ref (ad 33), .int x1]) ++ List.replicate (3 - (lg_sl ([.ref (ad 33), .int x1])).length) Slot.unset).toArray = ls at hl ⊢
  have hl : lv_has ls 3 [(0, .ref (ad 33)), (1, .int x1)] := hl
  unfold f_X4_takesLetter at h
  refine lv_iload_n hx hb dX4_takesLetter_0 rfl (lv_at hl 1 rfl) ?_
  refine lv_bipush (v := 97) hx hb dX4_takesLetter_1 (by decide) ?_
  refine lv_isub hx hb dX4_takesLetter_3 ?_
  refine lv_topi (fun y1 ey1 => ?_)
  have h := h y1 ey1
  refine lv_istore_n (lv' := [(2, .int y1), (0, .ref (ad 33)), (1, .int x1)]) hx hb dX4_takesLetter_4 rfl hl (by decide) rfl (fun ls hl => ?_)
  refine lv_iload_n hx hb dX4_takesLetter_5 rfl (lv_at hl 0 rfl) ?_
  refine lv_if_lt (tgt := 17) hx hb dX4_takesLetter_6 (by decide) (fun c2 => ?_) (fun c2 => ?_)
  · have h := h.1 c2
    refine lv_iconst (v := 0) hx hb dX4_takesLetter_17 (by decide) ?_
    exact W.zret (ty := .boolean) (v := 0) hx hb hr rfl (fun t ht hW => ⟨⟨0, μ, rfl, h, PW.to hK hN hP hD t ht hW⟩, hS.F ht⟩) hS.2.2 dX4_takesLetter_18
  · have h := h.2 c2
    refine lv_iload_n hx hb dX4_takesLetter_9 rfl (lv_at hl 0 rfl) ?_
    refine lv_aload_n hx hb dX4_takesLetter_10 rfl (lv_at hl 1 rfl) ?_
    refine zw_get (C := RX4) (T := TX4) (M := 10) (v := .int (μ.1 33 5)) hx hb hts hi_X4 hown hK hP kX_33 rfl 5 (by decide) hw0 rfl dX4_takesLetter_11 ?_
    refine lv_icmp_lt (tgt := 19) hx hb dX4_takesLetter_14 (by decide) (fun c3 => ?_) (fun c3 => ?_)
    · have h := h.1 c3
      refine lv_aload_n hx hb dX4_takesLetter_19 rfl (lv_at hl 1 rfl) ?_
      refine lv_aload_n hx hb dX4_takesLetter_20 rfl (lv_at hl 1 rfl) ?_
      refine zw_get (C := RX4) (T := TX4) (M := 10) (v := .int (μ.1 33 7)) hx hb hts hi_X4 hown hK hP kX_33 rfl 7 (by decide) hw1 rfl dX4_takesLetter_21 ?_
      refine lv_iload_n hx hb dX4_takesLetter_24 rfl (lv_at hl 0 rfl) ?_
      refine zc_i (zc_runSN (As := [.int (μ.1 33 7), .int y1]) (rest := [.ref (ad 33)]) ⟨hx, hb, hml, hown, hts⟩ (c_X5_cellOf l D cc A ad rs (μ.1 33 7) y1 μ _ h) ⟨va_cnB (host := "FeatureClashes") 2 hts gX4_takesLetter_X5_cellOf_n68 rfl rfl rfl (hN 2 _ rfl) hw2 (by decide +kernel) ⟨Nat.le_of_ble_eq_true rfl, Nat.le_of_ble_eq_true rfl⟩, hw3, trivial⟩ hK hN hP hD rfl hl.1 rfl (Nat.le_of_ble_eq_true rfl) dX4_takesLetter_25 ⟨Nat.zero_le _, Nat.zero_le _⟩) hS (fun r4 μ5 H locs h hP hD hS => ?_)
      refine zw_put (C := RX4) (T := TX4) (M := 10) hx hb hts hi_X4 tyX4 tyX4_ok nmX4 hown hK hP hD hS kX_33 rfl 8 (by decide) hw4 rfl rfl (Nat.le_of_ble_eq_true rfl) rfl dX4_takesLetter_28 (fun μ6 H locs eμ6 hP hD hS => ?_)
      have h := h μ6 eμ6
      refine lv_aload_n hx hb dX4_takesLetter_31 rfl (lv_at hl 1 rfl) ?_
      refine lv_iconst (v := 2) hx hb dX4_takesLetter_32 (by decide) ?_
      refine zw_put (C := RX4) (T := TX4) (M := 10) hx hb hts hi_X4 tyX4 tyX4_ok nmX4 hown hK hP hD hS kX_33 rfl 6 (by decide) hw5 rfl rfl (Nat.le_of_ble_eq_true rfl) rfl dX4_takesLetter_33 (fun μ7 H locs eμ7 hP hD hS => ?_)
      have h := h μ7 eμ7
      refine lv_aload_n hx hb dX4_takesLetter_36 rfl (lv_at hl 1 rfl) ?_
      refine zw_get (C := RX4) (T := TX4) (M := 10) (v := .ref (ad 35)) hx hb hts hi_X4 hown hK hP kX_33 rfl 2 (by decide) hw6 rfl dX4_takesLetter_37 ?_
      refine lv_aload_n hx hb dX4_takesLetter_40 rfl (lv_at hl 1 rfl) ?_
      refine zw_get (C := RX4) (T := TX4) (M := 10) (v := .int (μ7.1 33 8)) hx hb hts hi_X4 hown hK hP kX_33 rfl 8 (by decide) hw4 rfl dX4_takesLetter_41 ?_
      obtain ⟨hi8, h⟩ := h
      refine zw_iald hx hb hK hP kX_35 hi8 dX4_takesLetter_44 ?_
      refine lv_bipush (v := (-2)) hx hb dX4_takesLetter_45 (by decide) ?_
      refine lv_icmp_ne (tgt := 54) hx hb dX4_takesLetter_47 (by decide) (fun c9 => ?_) (fun c9 => ?_)
      · have h := h.1 c9
        refine lv_iconst (v := 0) hx hb dX4_takesLetter_54 (by decide) ?_
        exact W.zret (ty := .boolean) (v := 0) hx hb hr rfl (fun t ht hW => ⟨⟨0, μ7, rfl, h, PW.to hK hN hP hD t ht hW⟩, hS.F ht⟩) hS.2.2 dX4_takesLetter_55
      · have h := h.2 c9
        refine lv_iconst (v := 1) hx hb dX4_takesLetter_50 (by decide) ?_
        refine lv_goto (tgt := 55) hx hb dX4_takesLetter_51 (by decide) ?_
        exact W.zret (ty := .boolean) (v := 1) hx hb hr rfl (fun t ht hW => ⟨⟨1, μ7, rfl, h, PW.to hK hN hP hD t ht hW⟩, hS.F ht⟩) hS.2.2 dX4_takesLetter_55
    · have h := h.2 c3
      refine lv_iconst (v := 0) hx hb dX4_takesLetter_17 (by decide) ?_
      exact W.zret (ty := .boolean) (v := 0) hx hb hr rfl (fun t ht hW => ⟨⟨0, μ, rfl, h, PW.to hK hN hP hD t ht hW⟩, hS.F ht⟩) hS.2.2 dX4_takesLetter_18
set_option maxHeartbeats 4000000 in
set_option maxRecDepth 100000 in
theorem c_X4_takesKind (l : Launch) (D : va_G) (cc : Nat → ClassId) (A : Nat → Prop) (ad : Nat → Nat) (rs : va_W) (x1 : Int32) (μ : Mem) (K : Int32 → Mem → Prop) (h : f_X4_takesKind x1 μ K) : Met l yX4_takesKind wsX4_takesKind ({ frames := 0, cells := 0, slots := 0, locals := 0 }) (va_Pc [.ref (ad 33), .int x1] (PW shX 67 D cc A ad rs μ)) (va_Qi K (PW shX 67 D cc A ad rs) A) 0 0 A := by
  refine Met.ofW (cc := cX4_takesKind) (maxL := 2) (ret := (some .boolean)) (by decide) rfl ?_
  intro p e s m args below meth c s₁ BB hml hv
  obtain ⟨rfl, hP, hK, hD, hN⟩ := hv
  have hx := BB.exec
  have hb := BB.bytes
  have hr := BB.returns
  have hts := atoms_spec (ws := wsX4_takesKind) BB.pre
  have hown : s.vm.findClass RX4 = some m.cls := findClass_of_methodNamed BB.named
  have hlocks := BB.notSynchronized
  have hi_X4 : ∀ w ∈ u_ws RX4 TX4 10, w ∈ wsX4_takesKind := by decide +kernel
  have hw0 := hts (.fieldLink RX4 31 "FeatureClashes$Text" "step" "I") (by decide +kernel)
  have hw1 := hts (.fieldLink RX4 19 "FeatureClashes$Text" "edits" "[I") (by decide +kernel)
  have hw2 := hts (.fieldLink RX4 37 "FeatureClashes$Text" "cell" "I") (by decide +kernel)
  have hS : va_S A s.heap s.heap [] := va_S.rf
  have hl := lv_entry ([.ref (ad 33), .int x1]) (n := 2) (Nat.le_of_ble_eq_true rfl)
  rw [lg_entry_eq]
  generalize (lg_sl ([.ref (ad 33), .int x1]) ++ List.replicate (2 - (lg_sl ([.ref (ad 33), .int x1])).length) Slot.unset).toArray = ls at hl ⊢
  have hl : lv_has ls 2 [(0, .ref (ad 33)), (1, .int x1)] := hl
  unfold f_X4_takesKind at h
  refine lv_iload_n hx hb dX4_takesKind_0 rfl (lv_at hl 1 rfl) ?_
  refine lv_bipush (v := 45) hx hb dX4_takesKind_1 (by decide) ?_
  refine lv_icmp_ne (tgt := 24) hx hb dX4_takesKind_3 (by decide) (fun c1 => ?_) (fun c1 => ?_)
  · have h := h.1 c1
    refine lv_aload_n hx hb dX4_takesKind_24 rfl (lv_at hl 0 rfl) ?_
    refine lv_iconst (v := 3) hx hb dX4_takesKind_25 (by decide) ?_
    refine zw_put (C := RX4) (T := TX4) (M := 10) hx hb hts hi_X4 tyX4 tyX4_ok nmX4 hown hK hP hD hS kX_33 rfl 6 (by decide) hw0 rfl rfl (Nat.le_of_ble_eq_true rfl) rfl dX4_takesKind_26 (fun μ2 H locs eμ2 hP hD hS => ?_)
    have h := h μ2 eμ2
    refine lv_iload_n hx hb dX4_takesKind_29 rfl (lv_at hl 1 rfl) ?_
    refine lv_bipush (v := 62) hx hb dX4_takesKind_30 (by decide) ?_
    refine lv_icmp_ne (tgt := 39) hx hb dX4_takesKind_32 (by decide) (fun c3 => ?_) (fun c3 => ?_)
    · have h := h.1 c3
      refine lv_iconst (v := 0) hx hb dX4_takesKind_39 (by decide) ?_
      exact W.zret (ty := .boolean) (v := 0) hx hb hr rfl (fun t ht hW => ⟨⟨0, μ2, rfl, h, PW.to hK hN hP hD t ht hW⟩, hS.F ht⟩) hS.2.2 dX4_takesKind_40
    · have h := h.2 c3
      refine lv_iconst (v := 1) hx hb dX4_takesKind_35 (by decide) ?_
      refine lv_goto (tgt := 40) hx hb dX4_takesKind_36 (by decide) ?_
      exact W.zret (ty := .boolean) (v := 1) hx hb hr rfl (fun t ht hW => ⟨⟨1, μ2, rfl, h, PW.to hK hN hP hD t ht hW⟩, hS.F ht⟩) hS.2.2 dX4_takesKind_40
  · have h := h.2 c1
    refine lv_aload_n hx hb dX4_takesKind_6 rfl (lv_at hl 0 rfl) ?_
    refine zw_get (C := RX4) (T := TX4) (M := 10) (v := .ref (ad 35)) hx hb hts hi_X4 hown hK hP kX_33 rfl 2 (by decide) hw1 rfl dX4_takesKind_7 ?_
    refine lv_aload_n hx hb dX4_takesKind_10 rfl (lv_at hl 0 rfl) ?_
    refine zw_get (C := RX4) (T := TX4) (M := 10) (v := .int (μ.1 33 8)) hx hb hts hi_X4 hown hK hP kX_33 rfl 8 (by decide) hw2 rfl dX4_takesKind_11 ?_
    refine lv_iconst (v := (-1)) hx hb dX4_takesKind_14 (by decide) ?_
    obtain ⟨hi4, h⟩ := h
    refine zw_iast hx hb hK hP hD hS kX_35 hi4 dX4_takesKind_15 (fun μ5 H locs eμ5 hP hD hS => ?_)
    have h := h μ5 eμ5
    refine lv_aload_n hx hb dX4_takesKind_16 rfl (lv_at hl 0 rfl) ?_
    refine lv_bipush (v := 6) hx hb dX4_takesKind_17 (by decide) ?_
    refine zw_put (C := RX4) (T := TX4) (M := 10) hx hb hts hi_X4 tyX4 tyX4_ok nmX4 hown hK hP hD hS kX_33 rfl 6 (by decide) hw0 rfl rfl (Nat.le_of_ble_eq_true rfl) rfl dX4_takesKind_19 (fun μ6 H locs eμ6 hP hD hS => ?_)
    have h := h μ6 eμ6
    refine lv_iconst (v := 1) hx hb dX4_takesKind_22 (by decide) ?_
    exact W.zret (ty := .boolean) (v := 1) hx hb hr rfl (fun t ht hW => ⟨⟨1, μ6, rfl, h, PW.to hK hN hP hD t ht hW⟩, hS.F ht⟩) hS.2.2 dX4_takesKind_23
set_option maxHeartbeats 4000000 in
set_option maxRecDepth 100000 in
theorem c_X4_takesTarget (l : Launch) (D : va_G) (cc : Nat → ClassId) (A : Nat → Prop) (ad : Nat → Nat) (rs : va_W) (x1 : Int32) (μ : Mem) (K : Int32 → Mem → Prop) (h : f_X4_takesTarget x1 μ K) : Met l yX4_takesTarget wsX4_takesTarget ({ frames := 0, cells := 0, slots := 0, locals := 0 }) (va_Pc [.ref (ad 33), .int x1] (PW shX 67 D cc A ad rs μ)) (va_Qi K (PW shX 67 D cc A ad rs) A) 0 0 A := by
  refine Met.ofW (cc := cX4_takesTarget) (maxL := 2) (ret := (some .boolean)) (by decide) rfl ?_
  intro p e s m args below meth c s₁ BB hml hv
  obtain ⟨rfl, hP, hK, hD, hN⟩ := hv
  have hx := BB.exec
  have hb := BB.bytes
  have hr := BB.returns
  have hts := atoms_spec (ws := wsX4_takesTarget) BB.pre
  have hown : s.vm.findClass RX4 = some m.cls := findClass_of_methodNamed BB.named
  have hlocks := BB.notSynchronized
  have hi_X4 : ∀ w ∈ u_ws RX4 TX4 10, w ∈ wsX4_takesTarget := by decide +kernel
  have hw0 := hts (.fieldLink RX4 40 "FeatureClashes$Text" "target" "I") (by decide +kernel)
  have hw1 := hts (.fieldLink RX4 31 "FeatureClashes$Text" "step" "I") (by decide +kernel)
  have hw2 := hts (.fieldLink RX4 25 "FeatureClashes$Text" "states" "I") (by decide +kernel)
  have hS : va_S A s.heap s.heap [] := va_S.rf
  have hl := lv_entry ([.ref (ad 33), .int x1]) (n := 2) (Nat.le_of_ble_eq_true rfl)
  rw [lg_entry_eq]
  generalize (lg_sl ([.ref (ad 33), .int x1]) ++ List.replicate (2 - (lg_sl ([.ref (ad 33), .int x1])).length) Slot.unset).toArray = ls at hl ⊢
  have hl : lv_has ls 2 [(0, .ref (ad 33)), (1, .int x1)] := hl
  unfold f_X4_takesTarget at h
  refine lv_aload_n hx hb dX4_takesTarget_0 rfl (lv_at hl 0 rfl) ?_
  refine lv_iload_n hx hb dX4_takesTarget_1 rfl (lv_at hl 1 rfl) ?_
  refine lv_bipush (v := 48) hx hb dX4_takesTarget_2 (by decide) ?_
  refine lv_isub hx hb dX4_takesTarget_4 ?_
  refine zw_put (C := RX4) (T := TX4) (M := 10) hx hb hts hi_X4 tyX4 tyX4_ok nmX4 hown hK hP hD hS kX_33 rfl 9 (by decide) hw0 rfl rfl (Nat.le_of_ble_eq_true rfl) rfl dX4_takesTarget_5 (fun μ1 H locs eμ1 hP hD hS => ?_)
  have h := h μ1 eμ1
  refine lv_aload_n hx hb dX4_takesTarget_8 rfl (lv_at hl 0 rfl) ?_
  refine lv_iconst (v := 4) hx hb dX4_takesTarget_9 (by decide) ?_
  refine zw_put (C := RX4) (T := TX4) (M := 10) hx hb hts hi_X4 tyX4 tyX4_ok nmX4 hown hK hP hD hS kX_33 rfl 6 (by decide) hw1 rfl rfl (Nat.le_of_ble_eq_true rfl) rfl dX4_takesTarget_10 (fun μ2 H locs eμ2 hP hD hS => ?_)
  have h := h μ2 eμ2
  refine lv_aload_n hx hb dX4_takesTarget_13 rfl (lv_at hl 0 rfl) ?_
  refine zw_get (C := RX4) (T := TX4) (M := 10) (v := .int (μ2.1 33 9)) hx hb hts hi_X4 hown hK hP kX_33 rfl 9 (by decide) hw0 rfl dX4_takesTarget_14 ?_
  refine lv_if_lt (tgt := 35) hx hb dX4_takesTarget_17 (by decide) (fun c3 => ?_) (fun c3 => ?_)
  · have h := h.1 c3
    refine lv_iconst (v := 0) hx hb dX4_takesTarget_35 (by decide) ?_
    exact W.zret (ty := .boolean) (v := 0) hx hb hr rfl (fun t ht hW => ⟨⟨0, μ2, rfl, h, PW.to hK hN hP hD t ht hW⟩, hS.F ht⟩) hS.2.2 dX4_takesTarget_36
  · have h := h.2 c3
    refine lv_aload_n hx hb dX4_takesTarget_20 rfl (lv_at hl 0 rfl) ?_
    refine zw_get (C := RX4) (T := TX4) (M := 10) (v := .int (μ2.1 33 9)) hx hb hts hi_X4 hown hK hP kX_33 rfl 9 (by decide) hw0 rfl dX4_takesTarget_21 ?_
    refine lv_aload_n hx hb dX4_takesTarget_24 rfl (lv_at hl 0 rfl) ?_
    refine zw_get (C := RX4) (T := TX4) (M := 10) (v := .int (μ2.1 33 4)) hx hb hts hi_X4 hown hK hP kX_33 rfl 4 (by decide) hw2 rfl dX4_takesTarget_25 ?_
    refine lv_icmp_ge (tgt := 35) hx hb dX4_takesTarget_28 (by decide) (fun c4 => ?_) (fun c4 => ?_)
    · have h := h.1 c4
      refine lv_iconst (v := 0) hx hb dX4_takesTarget_35 (by decide) ?_
      exact W.zret (ty := .boolean) (v := 0) hx hb hr rfl (fun t ht hW => ⟨⟨0, μ2, rfl, h, PW.to hK hN hP hD t ht hW⟩, hS.F ht⟩) hS.2.2 dX4_takesTarget_36
    · have h := h.2 c4
      refine lv_iconst (v := 1) hx hb dX4_takesTarget_31 (by decide) ?_
      refine lv_goto (tgt := 36) hx hb dX4_takesTarget_32 (by decide) ?_
      exact W.zret (ty := .boolean) (v := 1) hx hb hr rfl (fun t ht hW => ⟨⟨1, μ2, rfl, h, PW.to hK hN hP hD t ht hW⟩, hS.F ht⟩) hS.2.2 dX4_takesTarget_36
set_option maxHeartbeats 4000000 in
set_option maxRecDepth 100000 in
theorem c_X5_isOutput (l : Launch) (D : va_G) (cc : Nat → ClassId) (A : Nat → Prop) (ad : Nat → Nat) (rs : va_W) (x0 : Int32) (μ : Mem) (K : Int32 → Mem → Prop) (h : f_X5_isOutput x0 μ K) : Met l yX5_isOutput wsX5_isOutput ({ frames := 0, cells := 0, slots := 0, locals := 0 }) (va_Pc [.int x0] (PW shX 67 D cc A ad rs μ)) (va_Qi K (PW shX 67 D cc A ad rs) A) 0 0 A := by
  refine Met.ofW (cc := cX5_isOutput) (maxL := 1) (ret := (some .boolean)) (by decide) rfl ?_
  intro p e s m args below meth c s₁ BB hml hv
  obtain ⟨rfl, hP, hK, hD, hN⟩ := hv
  have hx := BB.exec
  have hb := BB.bytes
  have hr := BB.returns
  have hts := atoms_spec (ws := wsX5_isOutput) BB.pre
  have hown : s.vm.findClass RX5 = some m.cls := findClass_of_methodNamed BB.named
  have hlocks := BB.notSynchronized
  have hS : va_S A s.heap s.heap [] := va_S.rf
  have hl := lv_entry ([.int x0]) (n := 1) (Nat.le_of_ble_eq_true rfl)
  rw [lg_entry_eq]
  generalize (lg_sl ([.int x0]) ++ List.replicate (1 - (lg_sl ([.int x0])).length) Slot.unset).toArray = ls at hl ⊢
  have hl : lv_has ls 1 [(0, .int x0)] := hl
  unfold f_X5_isOutput at h
  refine lv_iload_n hx hb dX5_isOutput_0 rfl (lv_at hl 0 rfl) ?_
  refine lv_if_lt (tgt := 14) hx hb dX5_isOutput_1 (by decide) (fun c1 => ?_) (fun c1 => ?_)
  · have h := h.1 c1
    refine lv_iconst (v := 0) hx hb dX5_isOutput_14 (by decide) ?_
    exact W.zret (ty := .boolean) (v := 0) hx hb hr rfl (fun t ht hW => ⟨⟨0, μ, rfl, h, PW.to hK hN hP hD t ht hW⟩, hS.F ht⟩) hS.2.2 dX5_isOutput_15
  · have h := h.2 c1
    refine lv_iload_n hx hb dX5_isOutput_4 rfl (lv_at hl 0 rfl) ?_
    refine lv_bipush (v := 9) hx hb dX5_isOutput_5 (by decide) ?_
    refine lv_icmp_gt (tgt := 14) hx hb dX5_isOutput_7 (by decide) (fun c2 => ?_) (fun c2 => ?_)
    · have h := h.1 c2
      refine lv_iconst (v := 0) hx hb dX5_isOutput_14 (by decide) ?_
      exact W.zret (ty := .boolean) (v := 0) hx hb hr rfl (fun t ht hW => ⟨⟨0, μ, rfl, h, PW.to hK hN hP hD t ht hW⟩, hS.F ht⟩) hS.2.2 dX5_isOutput_15
    · have h := h.2 c2
      refine lv_iconst (v := 1) hx hb dX5_isOutput_10 (by decide) ?_
      refine lv_goto (tgt := 15) hx hb dX5_isOutput_11 (by decide) ?_
      exact W.zret (ty := .boolean) (v := 1) hx hb hr rfl (fun t ht hW => ⟨⟨1, μ, rfl, h, PW.to hK hN hP hD t ht hW⟩, hS.F ht⟩) hS.2.2 dX5_isOutput_15
set_option maxHeartbeats 4000000 in
set_option maxRecDepth 100000 in
theorem c_X4_takesOutput (l : Launch) (D : va_G) (cc : Nat → ClassId) (A : Nat → Prop) (ad : Nat → Nat) (rs : va_W) (x1 : Int32) (μ : Mem) (K : Int32 → Mem → Prop) (h : f_X4_takesOutput x1 μ K) : Met l yX4_takesOutput wsX4_takesOutput ({ frames := 1, cells := 0, slots := 0, locals := 21 }) (va_Pc [.ref (ad 33), .int x1] (PW shX 67 D cc A ad rs μ)) (va_Qi K (PW shX 67 D cc A ad rs) A) 0 0 A := by
  refine Met.ofW (cc := cX4_takesOutput) (maxL := 3) (ret := (some .boolean)) (by decide) rfl ?_
  intro p e s m args below meth c s₁ BB hml hv
  obtain ⟨rfl, hP, hK, hD, hN⟩ := hv
  have hx := BB.exec
  have hb := BB.bytes
  have hr := BB.returns
  have hts := atoms_spec (ws := wsX4_takesOutput) BB.pre
  have hown : s.vm.findClass RX4 = some m.cls := findClass_of_methodNamed BB.named
  have hlocks := BB.notSynchronized
  have hi_X4 : ∀ w ∈ u_ws RX4 TX4 10, w ∈ wsX4_takesOutput := by decide +kernel
  have hw0 := hts (.initialized RX5) (by decide +kernel)
  have hw1 := hts (.static yX5_isOutput) (by decide +kernel)
  have hw2 := hts (.fieldLink RX4 19 "FeatureClashes$Text" "edits" "[I") (by decide +kernel)
  have hw3 := hts (.fieldLink RX4 37 "FeatureClashes$Text" "cell" "I") (by decide +kernel)
  have hw4 := hts (.fieldLink RX4 40 "FeatureClashes$Text" "target" "I") (by decide +kernel)
  have hw5 := hts (.static yX5_arrowOf) (by decide +kernel)
  have hw6 := hts (.fieldLink RX4 31 "FeatureClashes$Text" "step" "I") (by decide +kernel)
  have hS : va_S A s.heap s.heap [] := va_S.rf
  have hl := lv_entry ([.ref (ad 33), .int x1]) (n := 3) (Nat.le_of_ble_eq_true rfl)
  rw [lg_entry_eq]
  generalize (lg_sl ([.ref (ad 33), .int x1]) ++ List.replicate (3 - (lg_sl ([.ref (ad 33), .int x1])).length) Slot.unset).toArray = ls at hl ⊢
  have hl : lv_has ls 3 [(0, .ref (ad 33)), (1, .int x1)] := hl
  unfold f_X4_takesOutput at h
  refine lv_iload_n hx hb dX4_takesOutput_0 rfl (lv_at hl 1 rfl) ?_
  refine lv_bipush (v := 48) hx hb dX4_takesOutput_1 (by decide) ?_
  refine lv_isub hx hb dX4_takesOutput_3 ?_
  refine lv_topi (fun y1 ey1 => ?_)
  have h := h y1 ey1
  refine lv_istore_n (lv' := [(2, .int y1), (0, .ref (ad 33)), (1, .int x1)]) hx hb dX4_takesOutput_4 rfl hl (by decide) rfl (fun ls hl => ?_)
  refine lv_iload_n hx hb dX4_takesOutput_5 rfl (lv_at hl 0 rfl) ?_
  refine zc_i (zc_runSN (As := [.int y1]) (rest := []) ⟨hx, hb, hml, hown, hts⟩ (c_X5_isOutput l D cc A ad rs y1 μ _ h) ⟨va_cnB (host := "FeatureClashes") 1 hts gX4_takesOutput_X5_isOutput_n72 rfl rfl rfl (hN 1 _ rfl) hw0 (by decide +kernel) ⟨Nat.le_of_ble_eq_true rfl, Nat.le_of_ble_eq_true rfl⟩, hw1, trivial⟩ hK hN hP hD rfl hl.1 rfl (Nat.le_of_ble_eq_true rfl) dX4_takesOutput_6 ⟨Nat.zero_le _, Nat.zero_le _⟩) hS (fun r2 μ3 H locs h hP hD hS => ?_)
  refine lv_if_ne (tgt := 14) hx hb dX4_takesOutput_9 (by decide) (fun c4 => ?_) (fun c4 => ?_)
  · have h := h.1 c4
    refine lv_aload_n hx hb dX4_takesOutput_14 rfl (lv_at hl 1 rfl) ?_
    refine zw_get (C := RX4) (T := TX4) (M := 10) (v := .ref (ad 35)) hx hb hts hi_X4 hown hK hP kX_33 rfl 2 (by decide) hw2 rfl dX4_takesOutput_15 ?_
    refine lv_aload_n hx hb dX4_takesOutput_18 rfl (lv_at hl 1 rfl) ?_
    refine zw_get (C := RX4) (T := TX4) (M := 10) (v := .int (μ3.1 33 8)) hx hb hts hi_X4 hown hK hP kX_33 rfl 8 (by decide) hw3 rfl dX4_takesOutput_19 ?_
    refine lv_aload_n hx hb dX4_takesOutput_22 rfl (lv_at hl 1 rfl) ?_
    refine zw_get (C := RX4) (T := TX4) (M := 10) (v := .int (μ3.1 33 9)) hx hb hts hi_X4 hown hK hP kX_33 rfl 9 (by decide) hw4 rfl dX4_takesOutput_23 ?_
    refine lv_iload_n hx hb dX4_takesOutput_26 rfl (lv_at hl 0 rfl) ?_
    refine zc_i (zc_runSN (As := [.int (μ3.1 33 9), .int y1]) (rest := [.int (μ3.1 33 8), .ref (ad 35)]) ⟨hx, hb, hml, hown, hts⟩ (c_X5_arrowOf l D cc A ad rs (μ3.1 33 9) y1 μ3 _ h) ⟨va_cnB (host := "FeatureClashes") 2 hts gX4_takesOutput_X5_arrowOf_n75 rfl rfl rfl (hN 0 _ rfl) hw0 (by decide +kernel) ⟨Nat.le_of_ble_eq_true rfl, Nat.le_of_ble_eq_true rfl⟩, hw5, trivial⟩ hK hN hP hD rfl hl.1 rfl (Nat.le_of_ble_eq_true rfl) dX4_takesOutput_27 ⟨Nat.zero_le _, Nat.zero_le _⟩) hS (fun r5 μ6 H locs h hP hD hS => ?_)
    obtain ⟨hi7, h⟩ := h
    refine zw_iast hx hb hK hP hD hS kX_35 hi7 dX4_takesOutput_30 (fun μ8 H locs eμ8 hP hD hS => ?_)
    have h := h μ8 eμ8
    refine lv_aload_n hx hb dX4_takesOutput_31 rfl (lv_at hl 1 rfl) ?_
    refine lv_bipush (v := 6) hx hb dX4_takesOutput_32 (by decide) ?_
    refine zw_put (C := RX4) (T := TX4) (M := 10) hx hb hts hi_X4 tyX4 tyX4_ok nmX4 hown hK hP hD hS kX_33 rfl 6 (by decide) hw6 rfl rfl (Nat.le_of_ble_eq_true rfl) rfl dX4_takesOutput_34 (fun μ9 H locs eμ9 hP hD hS => ?_)
    have h := h μ9 eμ9
    refine lv_iconst (v := 1) hx hb dX4_takesOutput_37 (by decide) ?_
    exact W.zret (ty := .boolean) (v := 1) hx hb hr rfl (fun t ht hW => ⟨⟨1, μ9, rfl, h, PW.to hK hN hP hD t ht hW⟩, hS.F ht⟩) hS.2.2 dX4_takesOutput_38
  · have h := h.2 c4
    refine lv_iconst (v := 0) hx hb dX4_takesOutput_12 (by decide) ?_
    exact W.zret (ty := .boolean) (v := 0) hx hb hr rfl (fun t ht hW => ⟨⟨0, μ3, rfl, h, PW.to hK hN hP hD t ht hW⟩, hS.F ht⟩) hS.2.2 dX4_takesOutput_13
set_option maxHeartbeats 4000000 in
set_option maxRecDepth 100000 in
theorem c_X4_takes (l : Launch) (D : va_G) (cc : Nat → ClassId) (A : Nat → Prop) (ad : Nat → Nat) (rs : va_W) (x1 : Int32) (μ : Mem) (K : Int32 → Mem → Prop) (h : f_X4_takes x1 μ K) : Met l yX4_takes wsX4_takes ({ frames := 2, cells := 0, slots := 0, locals := 43 }) (va_Pc [.ref (ad 33), .int x1] (PW shX 67 D cc A ad rs μ)) (va_Qi K (PW shX 67 D cc A ad rs) A) 0 0 A := by
  refine Met.ofW (cc := cX4_takes) (maxL := 2) (ret := (some .boolean)) (by decide) rfl ?_
  intro p e s m args below meth c s₁ BB hml hv
  obtain ⟨rfl, hP, hK, hD, hN⟩ := hv
  have hx := BB.exec
  have hb := BB.bytes
  have hr := BB.returns
  have hts := atoms_spec (ws := wsX4_takes) BB.pre
  have hown : s.vm.findClass RX4 = some m.cls := findClass_of_methodNamed BB.named
  have hlocks := BB.notSynchronized
  have hi_X4 : ∀ w ∈ u_ws RX4 TX4 10, w ∈ wsX4_takes := by decide +kernel
  have hw0 := hts (.fieldLink RX4 31 "FeatureClashes$Text" "step" "I") (by decide +kernel)
  have hw1 := hts (.fieldLink RX4 22 "FeatureClashes$Text" "editCount" "I") (by decide +kernel)
  have hS : va_S A s.heap s.heap [] := va_S.rf
  have hl := lv_entry ([.ref (ad 33), .int x1]) (n := 2) (Nat.le_of_ble_eq_true rfl)
  rw [lg_entry_eq]
  generalize (lg_sl ([.ref (ad 33), .int x1]) ++ List.replicate (2 - (lg_sl ([.ref (ad 33), .int x1])).length) Slot.unset).toArray = ls at hl ⊢
  have hl : lv_has ls 2 [(0, .ref (ad 33)), (1, .int x1)] := hl
  unfold f_X4_takes at h
  refine lv_aload_n hx hb dX4_takes_0 rfl (lv_at hl 0 rfl) ?_
  refine zw_get (C := RX4) (T := TX4) (M := 10) (v := .int (μ.1 33 6)) hx hb hts hi_X4 hown hK hP kX_33 rfl 6 (by decide) hw0 rfl dX4_takes_1 ?_
  refine lv_topi (fun y1 ey1 => ?_)
  have h := h y1 ey1
  refine Classical.byCases (p := y1 = 0) (fun n0 => ?_) (fun n0 => ?_)
  · have h := h.1 n0
    refine lv_tableIn (off := 40) (tgt := 44) hx hb dX4_takes_4 (by rw [n0]; decide) (by rw [n0]; decide) (by rw [n0]; rfl) (by decide) ?_
    refine lv_aload_n hx hb dX4_takes_44 rfl (lv_at hl 0 rfl) ?_
    refine lv_iload_n hx hb dX4_takes_45 rfl (lv_at hl 1 rfl) ?_
    refine zc_i (zc_runV (As := [.int x1]) (rest := []) ⟨hx, hb, hml, hown, hts⟩ (c_X4_takesState l D cc A ad rs x1 μ _ h) (cwV 1 hts gX4_takes_X4_takesState rfl rfl rfl (by decide +kernel) ⟨Nat.le_of_ble_eq_true rfl, Nat.le_of_ble_eq_true rfl⟩) kX_33 rfl hK hN hP hD rfl hl.1 rfl (Nat.le_of_ble_eq_true rfl) dX4_takes_46 ⟨Nat.zero_le _, Nat.zero_le _⟩) hS (fun r2 μ3 H locs h hP hD hS => ?_)
    obtain ⟨hz, h⟩ := h
    exact W.zret (ty := .boolean) (v := r2) hx hb hr hz (fun t ht hW => ⟨⟨r2, μ3, rfl, h, PW.to hK hN hP hD t ht hW⟩, hS.F ht⟩) hS.2.2 dX4_takes_49
  replace h := h.2
  refine Classical.byCases (p := y1 = 1) (fun n1 => ?_) (fun n1 => ?_)
  · have h := h.1 n1
    refine lv_tableIn (off := 46) (tgt := 50) hx hb dX4_takes_4 (by rw [n1]; decide) (by rw [n1]; decide) (by rw [n1]; rfl) (by decide) ?_
    refine lv_aload_n hx hb dX4_takes_50 rfl (lv_at hl 0 rfl) ?_
    refine lv_iload_n hx hb dX4_takes_51 rfl (lv_at hl 1 rfl) ?_
    refine zc_i (zc_runV (As := [.int x1]) (rest := []) ⟨hx, hb, hml, hown, hts⟩ (c_X4_takesLetter l D cc A ad rs x1 μ _ h) (cwV 1 hts gX4_takes_X4_takesLetter rfl rfl rfl (by decide +kernel) ⟨Nat.le_of_ble_eq_true rfl, Nat.le_of_ble_eq_true rfl⟩) kX_33 rfl hK hN hP hD rfl hl.1 rfl (Nat.le_of_ble_eq_true rfl) dX4_takes_52 ⟨Nat.zero_le _, Nat.zero_le _⟩) hS (fun r4 μ5 H locs h hP hD hS => ?_)
    obtain ⟨hz, h⟩ := h
    exact W.zret (ty := .boolean) (v := r4) hx hb hr hz (fun t ht hW => ⟨⟨r4, μ5, rfl, h, PW.to hK hN hP hD t ht hW⟩, hS.F ht⟩) hS.2.2 dX4_takes_55
  replace h := h.2
  refine Classical.byCases (p := y1 = 2) (fun n2 => ?_) (fun n2 => ?_)
  · have h := h.1 n2
    refine lv_tableIn (off := 52) (tgt := 56) hx hb dX4_takes_4 (by rw [n2]; decide) (by rw [n2]; decide) (by rw [n2]; rfl) (by decide) ?_
    refine lv_aload_n hx hb dX4_takes_56 rfl (lv_at hl 0 rfl) ?_
    refine lv_iload_n hx hb dX4_takes_57 rfl (lv_at hl 1 rfl) ?_
    refine zc_i (zc_runV (As := [.int x1]) (rest := []) ⟨hx, hb, hml, hown, hts⟩ (c_X4_takesKind l D cc A ad rs x1 μ _ h) (cwV 1 hts gX4_takes_X4_takesKind rfl rfl rfl (by decide +kernel) ⟨Nat.le_of_ble_eq_true rfl, Nat.le_of_ble_eq_true rfl⟩) kX_33 rfl hK hN hP hD rfl hl.1 rfl (Nat.le_of_ble_eq_true rfl) dX4_takes_58 ⟨Nat.zero_le _, Nat.zero_le _⟩) hS (fun r6 μ7 H locs h hP hD hS => ?_)
    obtain ⟨hz, h⟩ := h
    exact W.zret (ty := .boolean) (v := r6) hx hb hr hz (fun t ht hW => ⟨⟨r6, μ7, rfl, h, PW.to hK hN hP hD t ht hW⟩, hS.F ht⟩) hS.2.2 dX4_takes_61
  replace h := h.2
  refine Classical.byCases (p := y1 = 3) (fun n3 => ?_) (fun n3 => ?_)
  · have h := h.1 n3
    refine lv_tableIn (off := 58) (tgt := 62) hx hb dX4_takes_4 (by rw [n3]; decide) (by rw [n3]; decide) (by rw [n3]; rfl) (by decide) ?_
    refine lv_aload_n hx hb dX4_takes_62 rfl (lv_at hl 0 rfl) ?_
    refine lv_iload_n hx hb dX4_takes_63 rfl (lv_at hl 1 rfl) ?_
    refine zc_i (zc_runV (As := [.int x1]) (rest := []) ⟨hx, hb, hml, hown, hts⟩ (c_X4_takesTarget l D cc A ad rs x1 μ _ h) (cwV 1 hts gX4_takes_X4_takesTarget rfl rfl rfl (by decide +kernel) ⟨Nat.le_of_ble_eq_true rfl, Nat.le_of_ble_eq_true rfl⟩) kX_33 rfl hK hN hP hD rfl hl.1 rfl (Nat.le_of_ble_eq_true rfl) dX4_takes_64 ⟨Nat.zero_le _, Nat.zero_le _⟩) hS (fun r8 μ9 H locs h hP hD hS => ?_)
    obtain ⟨hz, h⟩ := h
    exact W.zret (ty := .boolean) (v := r8) hx hb hr hz (fun t ht hW => ⟨⟨r8, μ9, rfl, h, PW.to hK hN hP hD t ht hW⟩, hS.F ht⟩) hS.2.2 dX4_takes_67
  replace h := h.2
  refine Classical.byCases (p := y1 = 4) (fun n4 => ?_) (fun n4 => ?_)
  · have h := h.1 n4
    refine lv_tableIn (off := 64) (tgt := 68) hx hb dX4_takes_4 (by rw [n4]; decide) (by rw [n4]; decide) (by rw [n4]; rfl) (by decide) ?_
    refine lv_aload_n hx hb dX4_takes_68 rfl (lv_at hl 0 rfl) ?_
    refine lv_iconst (v := 5) hx hb dX4_takes_69 (by decide) ?_
    refine zw_put (C := RX4) (T := TX4) (M := 10) hx hb hts hi_X4 tyX4 tyX4_ok nmX4 hown hK hP hD hS kX_33 rfl 6 (by decide) hw0 rfl rfl (Nat.le_of_ble_eq_true rfl) rfl dX4_takes_70 (fun μ10 H locs eμ10 hP hD hS => ?_)
    have h := h μ10 eμ10
    refine lv_iload_n hx hb dX4_takes_73 rfl (lv_at hl 1 rfl) ?_
    refine lv_bipush (v := 47) hx hb dX4_takes_74 (by decide) ?_
    refine lv_icmp_ne (tgt := 83) hx hb dX4_takes_76 (by decide) (fun c11 => ?_) (fun c11 => ?_)
    · have h := h.1 c11
      refine lv_iconst (v := 0) hx hb dX4_takes_83 (by decide) ?_
      exact W.zret (ty := .boolean) (v := 0) hx hb hr rfl (fun t ht hW => ⟨⟨0, μ10, rfl, h, PW.to hK hN hP hD t ht hW⟩, hS.F ht⟩) hS.2.2 dX4_takes_84
    · have h := h.2 c11
      refine lv_iconst (v := 1) hx hb dX4_takes_79 (by decide) ?_
      refine lv_goto (tgt := 84) hx hb dX4_takes_80 (by decide) ?_
      exact W.zret (ty := .boolean) (v := 1) hx hb hr rfl (fun t ht hW => ⟨⟨1, μ10, rfl, h, PW.to hK hN hP hD t ht hW⟩, hS.F ht⟩) hS.2.2 dX4_takes_84
  replace h := h.2
  refine Classical.byCases (p := y1 = 5) (fun n5 => ?_) (fun n5 => ?_)
  · have h := h.1 n5
    refine lv_tableIn (off := 81) (tgt := 85) hx hb dX4_takes_4 (by rw [n5]; decide) (by rw [n5]; decide) (by rw [n5]; rfl) (by decide) ?_
    refine lv_aload_n hx hb dX4_takes_85 rfl (lv_at hl 0 rfl) ?_
    refine lv_iload_n hx hb dX4_takes_86 rfl (lv_at hl 1 rfl) ?_
    refine zc_i (zc_runV (As := [.int x1]) (rest := []) ⟨hx, hb, hml, hown, hts⟩ (c_X4_takesOutput l D cc A ad rs x1 μ _ h) (cwV 1 hts gX4_takes_X4_takesOutput rfl rfl rfl (by decide +kernel) ⟨Nat.le_of_ble_eq_true rfl, Nat.le_of_ble_eq_true rfl⟩) kX_33 rfl hK hN hP hD rfl hl.1 rfl (Nat.le_of_ble_eq_true rfl) dX4_takes_87 ⟨Nat.zero_le _, Nat.zero_le _⟩) hS (fun r12 μ13 H locs h hP hD hS => ?_)
    obtain ⟨hz, h⟩ := h
    exact W.zret (ty := .boolean) (v := r12) hx hb hr hz (fun t ht hW => ⟨⟨r12, μ13, rfl, h, PW.to hK hN hP hD t ht hW⟩, hS.F ht⟩) hS.2.2 dX4_takes_90
  replace h := h.2
  have h := h ⟨n0, n1, n2, n3, n4, n5⟩
  refine lv_tableOut (tgt := 91) hx hb dX4_takes_4 (zw_sw n0 n1 n2 n3 n4 n5) (by decide) ?_
  refine lv_aload_n hx hb dX4_takes_91 rfl (lv_at hl 0 rfl) ?_
  refine lv_iconst (v := 0) hx hb dX4_takes_92 (by decide) ?_
  refine zw_put (C := RX4) (T := TX4) (M := 10) hx hb hts hi_X4 tyX4 tyX4_ok nmX4 hown hK hP hD hS kX_33 rfl 6 (by decide) hw0 rfl rfl (Nat.le_of_ble_eq_true rfl) rfl dX4_takes_93 (fun μ14 H locs eμ14 hP hD hS => ?_)
  have h := h μ14 eμ14
  refine lv_aload_n hx hb dX4_takes_96 rfl (lv_at hl 0 rfl) ?_
  refine lv_dup hx hb dX4_takes_97 rfl ?_
  refine zw_get (C := RX4) (T := TX4) (M := 10) (v := .int (μ14.1 33 3)) hx hb hts hi_X4 hown hK hP kX_33 rfl 3 (by decide) hw1 rfl dX4_takes_98 ?_
  refine lv_iconst (v := 1) hx hb dX4_takes_101 (by decide) ?_
  refine lv_iadd hx hb dX4_takes_102 ?_
  refine zw_put (C := RX4) (T := TX4) (M := 10) hx hb hts hi_X4 tyX4 tyX4_ok nmX4 hown hK hP hD hS kX_33 rfl 3 (by decide) hw1 rfl rfl (Nat.le_of_ble_eq_true rfl) rfl dX4_takes_103 (fun μ15 H locs eμ15 hP hD hS => ?_)
  have h := h μ15 eμ15
  refine lv_iload_n hx hb dX4_takes_106 rfl (lv_at hl 1 rfl) ?_
  refine lv_bipush (v := 59) hx hb dX4_takes_107 (by decide) ?_
  refine lv_icmp_ne (tgt := 116) hx hb dX4_takes_109 (by decide) (fun c16 => ?_) (fun c16 => ?_)
  · have h := h.1 c16
    refine lv_iconst (v := 0) hx hb dX4_takes_116 (by decide) ?_
    exact W.zret (ty := .boolean) (v := 0) hx hb hr rfl (fun t ht hW => ⟨⟨0, μ15, rfl, h, PW.to hK hN hP hD t ht hW⟩, hS.F ht⟩) hS.2.2 dX4_takes_117
  · have h := h.2 c16
    refine lv_iconst (v := 1) hx hb dX4_takes_112 (by decide) ?_
    refine lv_goto (tgt := 117) hx hb dX4_takes_113 (by decide) ?_
    exact W.zret (ty := .boolean) (v := 1) hx hb hr rfl (fun t ht hW => ⟨⟨1, μ15, rfl, h, PW.to hK hN hP hD t ht hW⟩, hS.F ht⟩) hS.2.2 dX4_takes_117
set_option maxHeartbeats 4000000 in
set_option maxRecDepth 100000 in
theorem c_X4_parse (l : Launch) (D : va_G) (cc : Nat → ClassId) (A : Nat → Prop) (ad : Nat → Nat) (rs : va_W) (x1 : Int32) (x2 : Int32) (μ : Mem) (K : Int32 → Mem → Prop) (h : f_X4_parse x1 x2 μ K) : Met l yX4_parse wsX4_parse ({ frames := 3, cells := 0, slots := 0, locals := 64 }) (va_Pc [.ref (ad 33), .int x1, .int x2] (PW shX 67 D cc A ad rs μ)) (va_Qi K (PW shX 67 D cc A ad rs) A) 0 0 A := by
  refine Met.ofW (cc := cX4_parse) (maxL := 4) (ret := (some .int)) (by decide) rfl ?_
  intro p e s m args below meth c s₁ BB hml hv
  obtain ⟨rfl, hP, hK, hD, hN⟩ := hv
  have hx := BB.exec
  have hb := BB.bytes
  have hr := BB.returns
  have hts := atoms_spec (ws := wsX4_parse) BB.pre
  have hown : s.vm.findClass RX4 = some m.cls := findClass_of_methodNamed BB.named
  have hlocks := BB.notSynchronized
  have hi_X4 : ∀ w ∈ u_ws RX4 TX4 10, w ∈ wsX4_parse := by decide +kernel
  have hw0 := hts (.fieldLink RX4 25 "FeatureClashes$Text" "states" "I") (by decide +kernel)
  have hw1 := hts (.fieldLink RX4 28 "FeatureClashes$Text" "letters" "I") (by decide +kernel)
  have hw2 := hts (.fieldLink RX4 31 "FeatureClashes$Text" "step" "I") (by decide +kernel)
  have hw3 := hts (.fieldLink RX4 22 "FeatureClashes$Text" "editCount" "I") (by decide +kernel)
  have hw4 := hts (.fieldLink RX4 19 "FeatureClashes$Text" "edits" "[I") (by decide +kernel)
  have hw5 := hts (.fieldLink RX4 15 "FeatureClashes$Text" "length" "I") (by decide +kernel)
  have hw6 := hts (.fieldLink RX4 9 "FeatureClashes$Text" "bytes" "[I") (by decide +kernel)
  have hS : va_S A s.heap s.heap [] := va_S.rf
  have hl := lv_entry ([.ref (ad 33), .int x1, .int x2]) (n := 4) (Nat.le_of_ble_eq_true rfl)
  rw [lg_entry_eq]
  generalize (lg_sl ([.ref (ad 33), .int x1, .int x2]) ++ List.replicate (4 - (lg_sl ([.ref (ad 33), .int x1, .int x2])).length) Slot.unset).toArray = ls at hl ⊢
  have hl : lv_has ls 4 [(0, .ref (ad 33)), (1, .int x1), (2, .int x2)] := hl
  unfold f_X4_parse at h
  refine (fun h => ?main) (h (fun b3 μ => ∀ (H1 : Heap) (locs : List Loc) (ls : Array Slot), va_P D vwCl (wW shX 67 cc ad μ ++ rs) H1 → va_D A (wW shX 67 cc ad μ ++ rs) → va_S A s.heap H1 locs → lv_has ls 4 [(0, .ref (ad 33)), (3, .int b3)] → W p l e (headSpec wsX4_parse ({ frames := 3, cells := 0, slots := 0, locals := 64 })).room s m ([.ref (ad 33), .int x1, .int x2] : List Value).toArray below meth c H1 locs 0 0 (MQ below (va_Qi K (PW shX 67 D cc A ad rs) A) ([.ref (ad 33), .int x1, .int x2] : List Value).toArray s 0 0 A) (F0 m 31 ls ([]))) ?b31)
  case main =>
      refine lv_aload_n hx hb dX4_parse_0 rfl (lv_at hl 0 rfl) ?_
      refine lv_iload_n hx hb dX4_parse_1 rfl (lv_at hl 1 rfl) ?_
      refine zw_put (C := RX4) (T := TX4) (M := 10) hx hb hts hi_X4 tyX4 tyX4_ok nmX4 hown hK hP hD hS kX_33 rfl 4 (by decide) hw0 rfl rfl (Nat.le_of_ble_eq_true rfl) rfl dX4_parse_2 (fun μ1 H locs eμ1 hP hD hS => ?_)
      have h := h μ1 eμ1
      refine lv_aload_n hx hb dX4_parse_5 rfl (lv_at hl 0 rfl) ?_
      refine lv_iload_n hx hb dX4_parse_6 rfl (lv_at hl 2 rfl) ?_
      refine zw_put (C := RX4) (T := TX4) (M := 10) hx hb hts hi_X4 tyX4 tyX4_ok nmX4 hown hK hP hD hS kX_33 rfl 5 (by decide) hw1 rfl rfl (Nat.le_of_ble_eq_true rfl) rfl dX4_parse_7 (fun μ2 H locs eμ2 hP hD hS => ?_)
      have h := h μ2 eμ2
      refine lv_aload_n hx hb dX4_parse_10 rfl (lv_at hl 0 rfl) ?_
      refine lv_iconst (v := 0) hx hb dX4_parse_11 (by decide) ?_
      refine zw_put (C := RX4) (T := TX4) (M := 10) hx hb hts hi_X4 tyX4 tyX4_ok nmX4 hown hK hP hD hS kX_33 rfl 6 (by decide) hw2 rfl rfl (Nat.le_of_ble_eq_true rfl) rfl dX4_parse_12 (fun μ3 H locs eμ3 hP hD hS => ?_)
      have h := h μ3 eμ3
      refine lv_aload_n hx hb dX4_parse_15 rfl (lv_at hl 0 rfl) ?_
      refine lv_iconst (v := 0) hx hb dX4_parse_16 (by decide) ?_
      refine zw_put (C := RX4) (T := TX4) (M := 10) hx hb hts hi_X4 tyX4 tyX4_ok nmX4 hown hK hP hD hS kX_33 rfl 3 (by decide) hw3 rfl rfl (Nat.le_of_ble_eq_true rfl) rfl dX4_parse_17 (fun μ4 H locs eμ4 hP hD hS => ?_)
      have h := h μ4 eμ4
      refine lv_aload_n hx hb dX4_parse_20 rfl (lv_at hl 0 rfl) ?_
      refine zw_get (C := RX4) (T := TX4) (M := 10) (v := .ref (ad 35)) hx hb hts hi_X4 hown hK hP kX_33 rfl 2 (by decide) hw4 rfl dX4_parse_21 ?_
      refine lv_bipush (v := (-2)) hx hb dX4_parse_24 (by decide) ?_
      refine zc_v (zc_runS (As := [.ref (ad 35), .int (-2)]) (rest := []) ⟨hx, hb, hml, hown, hts⟩ (c_J7_fill_53178 l D cc A ad rs 35 32 kX_35 (-2) μ4 _ h) (va_cwS 2 hts gX4_parse_J7_fill_53178 rfl rfl rfl (by decide +kernel) ⟨Nat.le_of_ble_eq_true rfl, Nat.le_of_ble_eq_true rfl⟩) hK hN hP hD rfl hl.1 rfl (Nat.le_of_ble_eq_true rfl) dX4_parse_26 ⟨Nat.zero_le _, Nat.zero_le _⟩) hS (fun μ6 H locs h hP hD hS => ?_)
      refine lv_iconst (v := 0) hx hb dX4_parse_29 (by decide) ?_
      refine lv_istore_n (lv' := [(3, .int 0), (0, .ref (ad 33)), (1, .int x1), (2, .int x2)]) hx hb dX4_parse_30 rfl hl (by decide) rfl (fun ls hl => ?_)
      exact h _ _ _ hP hD hS (lv_sub hl [1, 0] rfl)
  case b31 =>
    intro b3 μ h H locs ls hP hD hS hl
    refine lv_iload_n hx hb dX4_parse_31 rfl (lv_at hl 1 rfl) ?_
    refine lv_aload_n hx hb dX4_parse_32 rfl (lv_at hl 0 rfl) ?_
    refine zw_get (C := RX4) (T := TX4) (M := 10) (v := .int (μ.1 33 1)) hx hb hts hi_X4 hown hK hP kX_33 rfl 1 (by decide) hw5 rfl dX4_parse_33 ?_
    refine lv_icmp_ge (tgt := 60) hx hb dX4_parse_36 (by decide) (fun c7 => ?_) (fun c7 => ?_)
    · have h := h.1 c7
      refine lv_aload_n hx hb dX4_parse_60 rfl (lv_at hl 0 rfl) ?_
      refine zw_get (C := RX4) (T := TX4) (M := 10) (v := .int (μ.1 33 6)) hx hb hts hi_X4 hown hK hP kX_33 rfl 6 (by decide) hw2 rfl dX4_parse_61 ?_
      refine lv_if_ne (tgt := 72) hx hb dX4_parse_64 (by decide) (fun c8 => ?_) (fun c8 => ?_)
      · have h := h.1 c8
        refine lv_aload_n hx hb dX4_parse_72 rfl (lv_at hl 0 rfl) ?_
        refine zw_get (C := RX4) (T := TX4) (M := 10) (v := .int (μ.1 33 1)) hx hb hts hi_X4 hown hK hP kX_33 rfl 1 (by decide) hw5 rfl dX4_parse_73 ?_
        exact W.iret (v := μ.1 33 1) hx hb hr (fun t ht hW => ⟨⟨μ.1 33 1, μ, rfl, h, PW.to hK hN hP hD t ht hW⟩, hS.F ht⟩) hS.2.2 dX4_parse_76
      · have h := h.2 c8
        refine lv_bipush (v := (-5)) hx hb dX4_parse_67 (by decide) ?_
        refine lv_goto (tgt := 76) hx hb dX4_parse_69 (by decide) ?_
        exact W.iret (v := (-5)) hx hb hr (fun t ht hW => ⟨⟨(-5), μ, rfl, h, PW.to hK hN hP hD t ht hW⟩, hS.F ht⟩) hS.2.2 dX4_parse_76
    · have h := h.2 c7
      refine lv_aload_n hx hb dX4_parse_39 rfl (lv_at hl 0 rfl) ?_
      refine lv_aload_n hx hb dX4_parse_40 rfl (lv_at hl 0 rfl) ?_
      refine zw_get (C := RX4) (T := TX4) (M := 10) (v := .ref (ad 34)) hx hb hts hi_X4 hown hK hP kX_33 rfl 0 (by decide) hw6 rfl dX4_parse_41 ?_
      refine lv_iload_n hx hb dX4_parse_44 rfl (lv_at hl 1 rfl) ?_
      obtain ⟨hi9, h⟩ := h
      refine zw_iald hx hb hK hP kX_34 hi9 dX4_parse_45 ?_
      refine zc_i (zc_runV (As := [.int (μ.1 34 (b3 : Int32).toNatClampNeg)]) (rest := []) ⟨hx, hb, hml, hown, hts⟩ (c_X4_takes l D cc A ad rs (μ.1 34 (b3 : Int32).toNatClampNeg) μ _ h) (cwV 1 hts gX4_parse_X4_takes rfl rfl rfl (by decide +kernel) ⟨Nat.le_of_ble_eq_true rfl, Nat.le_of_ble_eq_true rfl⟩) kX_33 rfl hK hN hP hD rfl hl.1 rfl (Nat.le_of_ble_eq_true rfl) dX4_parse_46 ⟨Nat.zero_le _, Nat.zero_le _⟩) hS (fun r10 μ11 H locs h hP hD hS => ?_)
      refine lv_if_ne (tgt := 54) hx hb dX4_parse_49 (by decide) (fun c12 => ?_) (fun c12 => ?_)
      · have h := h.1 c12
        obtain ⟨y13, ey13⟩ : ∃ y : Int32, y = b3 + 1 := ⟨_, rfl⟩
        have h := h y13 ey13
        refine lv_iinc (v := y13) (lv' := [(3, .int y13), (0, .ref (ad 33))]) hx hb dX4_parse_54 hl (k := 1) rfl (by rw [ey13]; rfl) (by decide) rfl (fun ls hl => ?_)
        refine lv_goto (tgt := 31) hx hb dX4_parse_57 (by decide) ?_
        exact h _ _ _ hP hD hS (lv_sub hl [1, 0] rfl)
      · have h := h.2 c12
        refine lv_iload_n hx hb dX4_parse_52 rfl (lv_at hl 1 rfl) ?_
        exact W.iret (v := b3) hx hb hr (fun t ht hW => ⟨⟨b3, μ11, rfl, h, PW.to hK hN hP hD t ht hW⟩, hS.F ht⟩) hS.2.2 dX4_parse_53
set_option maxHeartbeats 4000000 in
set_option maxRecDepth 100000 in
theorem c_X5_begin (l : Launch) (D : va_G) (cc : Nat → ClassId) (A : Nat → Prop) (ad : Nat → Nat) (rs : va_W) (x1 : Int32) (x2 : Int32) (μ : Mem) (K : Int32 → Mem → Prop) (h : f_X5_begin x1 x2 μ K) : Met l yX5_begin wsX5_begin ({ frames := 2, cells := 0, slots := 0, locals := 45 }) (va_Pc [.ref (ad 0), .int x1, .int x2] (PW shX 67 D cc A ad rs μ)) (va_Qi K (PW shX 67 D cc A ad rs) A) 0 0 A := by
  refine Met.ofW (cc := cX5_begin) (maxL := 4) (ret := (some .int)) (by decide) rfl ?_
  intro p e s m args below meth c s₁ BB hml hv
  obtain ⟨rfl, hP, hK, hD, hN⟩ := hv
  have hx := BB.exec
  have hb := BB.bytes
  have hr := BB.returns
  have hts := atoms_spec (ws := wsX5_begin) BB.pre
  have hown : s.vm.findClass RX5 = some m.cls := findClass_of_methodNamed BB.named
  have hlocks := BB.notSynchronized
  have hi_X5 : ∀ w ∈ u_ws RX5 TX5 12, w ∈ wsX5_begin := by decide +kernel
  have hi_X2 : ∀ w ∈ u_ws RX2 TX2 7, w ∈ wsX5_begin := by decide +kernel
  have hw0 := hts (.fieldLink RX5 12 "FeatureClashes" "setup" "LFeatureClashes$Setup;") (by decide +kernel)
  have hw1 := hts (.fieldLink RX5 65 "FeatureClashes$Setup" "states" "I") (by decide +kernel)
  have hw2 := hts (.fieldLink RX5 68 "FeatureClashes$Setup" "letters" "I") (by decide +kernel)
  have hw3 := hts (.fieldLink RX5 35 "FeatureClashes" "wordLength" "I") (by decide +kernel)
  have hS : va_S A s.heap s.heap [] := va_S.rf
  have hl := lv_entry ([.ref (ad 0), .int x1, .int x2]) (n := 4) (Nat.le_of_ble_eq_true rfl)
  rw [lg_entry_eq]
  generalize (lg_sl ([.ref (ad 0), .int x1, .int x2]) ++ List.replicate (4 - (lg_sl ([.ref (ad 0), .int x1, .int x2])).length) Slot.unset).toArray = ls at hl ⊢
  have hl : lv_has ls 4 [(0, .ref (ad 0)), (1, .int x1), (2, .int x2)] := hl
  unfold f_X5_begin at h
  refine lv_iload_n hx hb dX5_begin_0 rfl (lv_at hl 1 rfl) ?_
  refine lv_iconst (v := 1) hx hb dX5_begin_1 (by decide) ?_
  refine lv_icmp_lt (tgt := 21) hx hb dX5_begin_2 (by decide) (fun c1 => ?_) (fun c1 => ?_)
  · have h := h.1 c1
    refine lv_bipush (v := (-2)) hx hb dX5_begin_21 (by decide) ?_
    exact W.iret (v := (-2)) hx hb hr (fun t ht hW => ⟨⟨(-2), μ, rfl, h, PW.to hK hN hP hD t ht hW⟩, hS.F ht⟩) hS.2.2 dX5_begin_23
  · have h := h.2 c1
    refine lv_iload_n hx hb dX5_begin_5 rfl (lv_at hl 1 rfl) ?_
    refine lv_bipush (v := 8) hx hb dX5_begin_6 (by decide) ?_
    refine lv_icmp_gt (tgt := 21) hx hb dX5_begin_8 (by decide) (fun c2 => ?_) (fun c2 => ?_)
    · have h := h.1 c2
      refine lv_bipush (v := (-2)) hx hb dX5_begin_21 (by decide) ?_
      exact W.iret (v := (-2)) hx hb hr (fun t ht hW => ⟨⟨(-2), μ, rfl, h, PW.to hK hN hP hD t ht hW⟩, hS.F ht⟩) hS.2.2 dX5_begin_23
    · have h := h.2 c2
      refine lv_iload_n hx hb dX5_begin_11 rfl (lv_at hl 2 rfl) ?_
      refine lv_iconst (v := 1) hx hb dX5_begin_12 (by decide) ?_
      refine lv_icmp_lt (tgt := 21) hx hb dX5_begin_13 (by decide) (fun c3 => ?_) (fun c3 => ?_)
      · have h := h.1 c3
        refine lv_bipush (v := (-2)) hx hb dX5_begin_21 (by decide) ?_
        exact W.iret (v := (-2)) hx hb hr (fun t ht hW => ⟨⟨(-2), μ, rfl, h, PW.to hK hN hP hD t ht hW⟩, hS.F ht⟩) hS.2.2 dX5_begin_23
      · have h := h.2 c3
        refine lv_iload_n hx hb dX5_begin_16 rfl (lv_at hl 2 rfl) ?_
        refine lv_iconst (v := 4) hx hb dX5_begin_17 (by decide) ?_
        refine lv_icmp_le (tgt := 24) hx hb dX5_begin_18 (by decide) (fun c4 => ?_) (fun c4 => ?_)
        · have h := h.1 c4
          refine lv_bipush (v := 10) hx hb dX5_begin_24 (by decide) ?_
          refine lv_aload_n hx hb dX5_begin_26 rfl (lv_at hl 0 rfl) ?_
          refine zw_get (C := RX5) (T := TX5) (M := 12) (v := .ref (ad 1)) hx hb hts hi_X5 hown hK hP kX_0 rfl 0 (by decide) hw0 rfl dX5_begin_27 ?_
          refine zw_get (C := RX2) (T := TX2) (M := 7) (v := .int (μ.1 1 0)) hx hb hts hi_X2 hown hK hP (oS sS1) rfl 0 (by decide) hw1 rfl dX5_begin_30 ?_
          refine lv_imul hx hb dX5_begin_33 ?_
          refine lv_aload_n hx hb dX5_begin_34 rfl (lv_at hl 0 rfl) ?_
          refine zw_get (C := RX5) (T := TX5) (M := 12) (v := .ref (ad 1)) hx hb hts hi_X5 hown hK hP kX_0 rfl 0 (by decide) hw0 rfl dX5_begin_35 ?_
          refine zw_get (C := RX2) (T := TX2) (M := 7) (v := .int (μ.1 1 1)) hx hb hts hi_X2 hown hK hP (oS sS1) rfl 1 (by decide) hw2 rfl dX5_begin_38 ?_
          refine lv_iadd hx hb dX5_begin_41 ?_
          refine lv_topi (fun y5 ey5 => ?_)
          have h := h y5 ey5
          refine lv_istore_n (lv' := [(3, .int y5), (0, .ref (ad 0)), (1, .int x1), (2, .int x2)]) hx hb dX5_begin_42 rfl hl (by decide) rfl (fun ls hl => ?_)
          refine lv_aload_n hx hb dX5_begin_43 rfl (lv_at hl 1 rfl) ?_
          refine zw_get (C := RX5) (T := TX5) (M := 12) (v := .ref (ad 1)) hx hb hts hi_X5 hown hK hP kX_0 rfl 0 (by decide) hw0 rfl dX5_begin_44 ?_
          refine lv_iload_n hx hb dX5_begin_47 rfl (lv_at hl 2 rfl) ?_
          refine lv_iload_n hx hb dX5_begin_48 rfl (lv_at hl 3 rfl) ?_
          refine zc_v (zc_runV (As := [.int x1, .int x2]) (rest := []) ⟨hx, hb, hml, hown, hts⟩ (c_X2_startAnew l D cc A ad rs 1 sS1 x1 x2 μ _ h) (cwV 2 hts gX5_begin_X2_startAnew rfl rfl rfl (by decide +kernel) ⟨Nat.le_of_ble_eq_true rfl, Nat.le_of_ble_eq_true rfl⟩) (oS sS1) rfl hK hN hP hD rfl hl.1 rfl (Nat.le_of_ble_eq_true rfl) dX5_begin_49 ⟨Nat.zero_le _, Nat.zero_le _⟩) hS (fun μ7 H locs h hP hD hS => ?_)
          refine lv_aload_n hx hb dX5_begin_52 rfl (lv_at hl 1 rfl) ?_
          refine lv_iconst (v := 0) hx hb dX5_begin_53 (by decide) ?_
          refine zw_put (C := RX5) (T := TX5) (M := 12) hx hb hts hi_X5 tyX5 tyX5_ok nmX5 hown hK hP hD hS kX_0 rfl 5 (by decide) hw3 rfl rfl (Nat.le_of_ble_eq_true rfl) rfl dX5_begin_54 (fun μ8 H locs eμ8 hP hD hS => ?_)
          have h := h μ8 eμ8
          refine lv_iload_n hx hb dX5_begin_57 rfl (lv_at hl 0 rfl) ?_
          exact W.iret (v := y5) hx hb hr (fun t ht hW => ⟨⟨y5, μ8, rfl, h, PW.to hK hN hP hD t ht hW⟩, hS.F ht⟩) hS.2.2 dX5_begin_58
        · have h := h.2 c4
          refine lv_bipush (v := (-2)) hx hb dX5_begin_21 (by decide) ?_
          exact W.iret (v := (-2)) hx hb hr (fun t ht hW => ⟨⟨(-2), μ, rfl, h, PW.to hK hN hP hD t ht hW⟩, hS.F ht⟩) hS.2.2 dX5_begin_23
