set_option maxHeartbeats 4000000 in
set_option maxRecDepth 100000 in
theorem law_results {p : Program} {l : Launch} {e : Env} {s : State} {m : MethodId} {below : List Frame} {meth : Method} {c : Code} {D : va_G} {cc : Nat → ClassId} {adX adM : Nat → Nat} {b L : Nat} {xs : Nat → Int32} {nc ns : Nat} {R : Mem → Mem → Prop} (C0 : lw_At p s m meth c b L xs) (hK : va_K D vwCl (tyL cc) s) (hN : NW s) (hc : nc ≤ room_1.cells ∧ ns ≤ room_1.slots) {X0 M0 : Mem} {x3 : Int32}  (h : f_X5_results  X0 (fun r1 X1 => f_X6_results  M0 (fun r2 M1 => r1 = r2 ∧ R X1 M1))) {H : Heap} {locs : List Loc} {ls : Array Slot} (hP : va_P D vwCl (wW shX 67 cc adX X0 ++ wW shM 18 cc adM M0) H) (hD : va_D (fun q : Nat => s.heap.size ≤ q) (wW shX 67 cc adX X0 ++ wW shM 18 cc adM M0)) (hS : va_S (fun q : Nat => s.heap.size ≤ q) s.heap H locs) (hl : lv_has ls 4 [(0, .ref b), (1, .ref (adX 0)), (2, .ref (adM 0)), (3, .int x3)])
    (kk : ∀ (X1 M1 : Mem) (H : Heap) (locs : List Loc) (ls : Array Slot), R X1 M1 → va_P D vwCl (wW shX 67 cc adX X1 ++ wW shM 18 cc adM M1) H → va_D (fun q : Nat => s.heap.size ≤ q) (wW shX 67 cc adX X1 ++ wW shM 18 cc adM M1) → va_S (fun q : Nat => s.heap.size ≤ q) s.heap H locs → lv_has ls 4 [(0, .ref b), (1, .ref (adX 0)), (2, .ref (adM 0)), (3, .int x3)] → W p l e room_1 s m #[Value.ref b] below meth c H locs nc ns (lw_Z below #[Value.ref b] s) (F0 m 1053 ls [])) : W p l e room_1 s m #[Value.ref b] below meth c H locs nc ns (lw_Z below #[Value.ref b] s) (F0 m 711 ls []) := by
  obtain ⟨hx, hb, hr, hml, hown, hts0, hX, hbl, hlocks, hgv⟩ := C0
  have hts : ∀ w ∈ wsL_law, w.before #[Value.ref b] s = true := fun w h => hts0 w (wsL_law_in w h)
  have hbA : ¬ (fun q : Nat => s.heap.size ≤ q) b := Nat.not_le.mpr hbl
  refine lv_aload_n hx hb dL_law_711 rfl (lv_at hl 1 rfl) ?_
  refine zc_i (zc_runV (sh := shX) (N := 67) (ad := adX) (rs := wW shM 18 cc adM M0) (As := []) (rest := []) ⟨hx, hb, hml, hown, hts⟩ (c_X5_results l D cc (fun q : Nat => s.heap.size ≤ q) adX (wW shM 18 cc adM M0)  X0 _ h) (cwV 0 hts gL_law_X5_results rfl rfl rfl (by decide +kernel) ⟨Nat.le_of_ble_eq_true rfl, Nat.le_of_ble_eq_true rfl⟩) kX_0 rfl hK hN hP hD rfl hl.1 rfl (Nat.le_of_ble_eq_true rfl) dL_law_712 hc) hS (fun r1 X1 H locs h hP hD hS => ?_)
  refine lv_aload_n hx hb dL_law_715 rfl (lv_at hl 2 rfl) ?_
  have hP := va_P.swap (a := []) hP
  have hD := va_D.swap (a := []) hD
  refine zc_i (zc_runV (sh := shM) (N := 18) (ad := adM) (rs := wW shX 67 cc adX X1) (As := []) (rest := [.int r1]) ⟨hx, hb, hml, hown, hts⟩ (c_X6_results l D cc (fun q : Nat => s.heap.size ≤ q) adM (wW shX 67 cc adX X1)  M0 _ h) (cwV 0 hts gL_law_X6_results rfl rfl rfl (by decide +kernel) ⟨Nat.le_of_ble_eq_true rfl, Nat.le_of_ble_eq_true rfl⟩) kM_0 rfl hK hN hP hD rfl hl.1 rfl (Nat.le_of_ble_eq_true rfl) dL_law_716 hc) hS (fun r2 M1 H locs h hP hD hS => ?_)
  have hP := va_P.swap (a := []) hP
  have hD := va_D.swap (a := []) hD
  refine lv_icmp_eq (tgt := 1053) hx hb dL_law_719 (by decide) (fun c9 => ?_) (fun c9 => ?_)
  · exact kk X1 M1 H locs ls h.2 hP hD hS hl
  · exact absurd h.1 c9
set_option maxHeartbeats 4000000 in
set_option maxRecDepth 100000 in
theorem law_reach {p : Program} {l : Launch} {e : Env} {s : State} {m : MethodId} {below : List Frame} {meth : Method} {c : Code} {D : va_G} {cc : Nat → ClassId} {adX adM : Nat → Nat} {b L : Nat} {xs : Nat → Int32} {nc ns : Nat} {R : Mem → Mem → Prop} (C0 : lw_At p s m meth c b L xs) (hK : va_K D vwCl (tyL cc) s) (hN : NW s) (hc : nc ≤ room_1.cells ∧ ns ≤ room_1.slots) {X0 M0 : Mem} {x3 : Int32} (h1 : vp_in (x3 + 1) L) (h : f_X5_reach (xs (x3 + 1).toNatClampNeg) X0 (fun r1 X1 => f_X6_reach (xs (x3 + 1).toNatClampNeg) M0 (fun r2 M1 => r1 = r2 ∧ R X1 M1))) {H : Heap} {locs : List Loc} {ls : Array Slot} (hP : va_P D vwCl (wW shX 67 cc adX X0 ++ wW shM 18 cc adM M0) H) (hD : va_D (fun q : Nat => s.heap.size ≤ q) (wW shX 67 cc adX X0 ++ wW shM 18 cc adM M0)) (hS : va_S (fun q : Nat => s.heap.size ≤ q) s.heap H locs) (hl : lv_has ls 4 [(0, .ref b), (1, .ref (adX 0)), (2, .ref (adM 0)), (3, .int x3)])
    (kk : ∀ (X1 M1 : Mem) (H : Heap) (locs : List Loc) (ls : Array Slot), R X1 M1 → va_P D vwCl (wW shX 67 cc adX X1 ++ wW shM 18 cc adM M1) H → va_D (fun q : Nat => s.heap.size ≤ q) (wW shX 67 cc adX X1 ++ wW shM 18 cc adM M1) → va_S (fun q : Nat => s.heap.size ≤ q) s.heap H locs → lv_has ls 4 [(0, .ref b), (1, .ref (adX 0)), (2, .ref (adM 0)), (3, .int x3)] → W p l e room_1 s m #[Value.ref b] below meth c H locs nc ns (lw_Z below #[Value.ref b] s) (F0 m 1053 ls [])) : W p l e room_1 s m #[Value.ref b] below meth c H locs nc ns (lw_Z below #[Value.ref b] s) (F0 m 724 ls []) := by
  obtain ⟨hx, hb, hr, hml, hown, hts0, hX, hbl, hlocks, hgv⟩ := C0
  have hts : ∀ w ∈ wsL_law, w.before #[Value.ref b] s = true := fun w h => hts0 w (wsL_law_in w h)
  have hbA : ¬ (fun q : Nat => s.heap.size ≤ q) b := Nat.not_le.mpr hbl
  refine lv_aload_n hx hb dL_law_724 rfl (lv_at hl 1 rfl) ?_
  refine lv_aload_n hx hb dL_law_725 rfl (lv_at hl 0 rfl) ?_
  refine lv_iload_n hx hb dL_law_726 rfl (lv_at hl 3 rfl) ?_
  refine lv_iconst (v := 1) hx hb dL_law_727 (by decide) ?_
  refine lv_iadd hx hb dL_law_728 ?_
  refine va_sld hx hb hX hbl hbA hS h1 dL_law_729 ?_
  refine zc_i (zc_runV (sh := shX) (N := 67) (ad := adX) (rs := wW shM 18 cc adM M0) (As := [.int (xs (x3 + 1).toNatClampNeg)]) (rest := []) ⟨hx, hb, hml, hown, hts⟩ (c_X5_reach l D cc (fun q : Nat => s.heap.size ≤ q) adX (wW shM 18 cc adM M0) (xs (x3 + 1).toNatClampNeg) X0 _ h) (cwV 1 hts gL_law_X5_reach rfl rfl rfl (by decide +kernel) ⟨Nat.le_of_ble_eq_true rfl, Nat.le_of_ble_eq_true rfl⟩) kX_0 rfl hK hN hP hD rfl hl.1 rfl (Nat.le_of_ble_eq_true rfl) dL_law_730 hc) hS (fun r1 X1 H locs h hP hD hS => ?_)
  refine lv_aload_n hx hb dL_law_733 rfl (lv_at hl 2 rfl) ?_
  refine lv_aload_n hx hb dL_law_734 rfl (lv_at hl 0 rfl) ?_
  refine lv_iload_n hx hb dL_law_735 rfl (lv_at hl 3 rfl) ?_
  refine lv_iconst (v := 1) hx hb dL_law_736 (by decide) ?_
  refine lv_iadd hx hb dL_law_737 ?_
  refine va_sld hx hb hX hbl hbA hS h1 dL_law_738 ?_
  have hP := va_P.swap (a := []) hP
  have hD := va_D.swap (a := []) hD
  refine zc_i (zc_runV (sh := shM) (N := 18) (ad := adM) (rs := wW shX 67 cc adX X1) (As := [.int (xs (x3 + 1).toNatClampNeg)]) (rest := [.int r1]) ⟨hx, hb, hml, hown, hts⟩ (c_X6_reach l D cc (fun q : Nat => s.heap.size ≤ q) adM (wW shX 67 cc adX X1) (xs (x3 + 1).toNatClampNeg) M0 _ h) (cwV 1 hts gL_law_X6_reach rfl rfl rfl (by decide +kernel) ⟨Nat.le_of_ble_eq_true rfl, Nat.le_of_ble_eq_true rfl⟩) kM_0 rfl hK hN hP hD rfl hl.1 rfl (Nat.le_of_ble_eq_true rfl) dL_law_739 hc) hS (fun r2 M1 H locs h hP hD hS => ?_)
  have hP := va_P.swap (a := []) hP
  have hD := va_D.swap (a := []) hD
  refine lv_icmp_eq (tgt := 1053) hx hb dL_law_742 (by decide) (fun c9 => ?_) (fun c9 => ?_)
  · exact kk X1 M1 H locs ls h.2 hP hD hS hl
  · exact absurd h.1 c9
set_option maxHeartbeats 4000000 in
set_option maxRecDepth 100000 in
theorem law_setBefore {p : Program} {l : Launch} {e : Env} {s : State} {m : MethodId} {below : List Frame} {meth : Method} {c : Code} {D : va_G} {cc : Nat → ClassId} {adX adM : Nat → Nat} {b L : Nat} {xs : Nat → Int32} {nc ns : Nat} {R : Mem → Mem → Prop} (C0 : lw_At p s m meth c b L xs) (hK : va_K D vwCl (tyL cc) s) (hN : NW s) (hc : nc ≤ room_1.cells ∧ ns ≤ room_1.slots) {X0 M0 : Mem} {x3 : Int32} (h1 : vp_in (x3 + 1) L) (h2 : vp_in (x3 + 2) L) (h : f_X5_setBefore (xs (x3 + 1).toNatClampNeg) (xs (x3 + 2).toNatClampNeg) X0 (fun r1 X1 => f_X6_setBefore (xs (x3 + 1).toNatClampNeg) (xs (x3 + 2).toNatClampNeg) M0 (fun r2 M1 => r1 = r2 ∧ R X1 M1))) {H : Heap} {locs : List Loc} {ls : Array Slot} (hP : va_P D vwCl (wW shX 67 cc adX X0 ++ wW shM 18 cc adM M0) H) (hD : va_D (fun q : Nat => s.heap.size ≤ q) (wW shX 67 cc adX X0 ++ wW shM 18 cc adM M0)) (hS : va_S (fun q : Nat => s.heap.size ≤ q) s.heap H locs) (hl : lv_has ls 4 [(0, .ref b), (1, .ref (adX 0)), (2, .ref (adM 0)), (3, .int x3)])
    (kk : ∀ (X1 M1 : Mem) (H : Heap) (locs : List Loc) (ls : Array Slot), R X1 M1 → va_P D vwCl (wW shX 67 cc adX X1 ++ wW shM 18 cc adM M1) H → va_D (fun q : Nat => s.heap.size ≤ q) (wW shX 67 cc adX X1 ++ wW shM 18 cc adM M1) → va_S (fun q : Nat => s.heap.size ≤ q) s.heap H locs → lv_has ls 4 [(0, .ref b), (1, .ref (adX 0)), (2, .ref (adM 0)), (3, .int x3)] → W p l e room_1 s m #[Value.ref b] below meth c H locs nc ns (lw_Z below #[Value.ref b] s) (F0 m 1053 ls [])) : W p l e room_1 s m #[Value.ref b] below meth c H locs nc ns (lw_Z below #[Value.ref b] s) (F0 m 747 ls []) := by
  obtain ⟨hx, hb, hr, hml, hown, hts0, hX, hbl, hlocks, hgv⟩ := C0
  have hts : ∀ w ∈ wsL_law, w.before #[Value.ref b] s = true := fun w h => hts0 w (wsL_law_in w h)
  have hbA : ¬ (fun q : Nat => s.heap.size ≤ q) b := Nat.not_le.mpr hbl
  refine lv_aload_n hx hb dL_law_747 rfl (lv_at hl 1 rfl) ?_
  refine lv_aload_n hx hb dL_law_748 rfl (lv_at hl 0 rfl) ?_
  refine lv_iload_n hx hb dL_law_749 rfl (lv_at hl 3 rfl) ?_
  refine lv_iconst (v := 1) hx hb dL_law_750 (by decide) ?_
  refine lv_iadd hx hb dL_law_751 ?_
  refine va_sld hx hb hX hbl hbA hS h1 dL_law_752 ?_
  refine lv_aload_n hx hb dL_law_753 rfl (lv_at hl 0 rfl) ?_
  refine lv_iload_n hx hb dL_law_754 rfl (lv_at hl 3 rfl) ?_
  refine lv_iconst (v := 2) hx hb dL_law_755 (by decide) ?_
  refine lv_iadd hx hb dL_law_756 ?_
  refine va_sld hx hb hX hbl hbA hS h2 dL_law_757 ?_
  refine zc_i (zc_runV (sh := shX) (N := 67) (ad := adX) (rs := wW shM 18 cc adM M0) (As := [.int (xs (x3 + 1).toNatClampNeg), .int (xs (x3 + 2).toNatClampNeg)]) (rest := []) ⟨hx, hb, hml, hown, hts⟩ (c_X5_setBefore l D cc (fun q : Nat => s.heap.size ≤ q) adX (wW shM 18 cc adM M0) (xs (x3 + 1).toNatClampNeg) (xs (x3 + 2).toNatClampNeg) X0 _ h) (cwV 2 hts gL_law_X5_setBefore rfl rfl rfl (by decide +kernel) ⟨Nat.le_of_ble_eq_true rfl, Nat.le_of_ble_eq_true rfl⟩) kX_0 rfl hK hN hP hD rfl hl.1 rfl (Nat.le_of_ble_eq_true rfl) dL_law_758 hc) hS (fun r1 X1 H locs h hP hD hS => ?_)
  refine lv_aload_n hx hb dL_law_761 rfl (lv_at hl 2 rfl) ?_
  refine lv_aload_n hx hb dL_law_762 rfl (lv_at hl 0 rfl) ?_
  refine lv_iload_n hx hb dL_law_763 rfl (lv_at hl 3 rfl) ?_
  refine lv_iconst (v := 1) hx hb dL_law_764 (by decide) ?_
  refine lv_iadd hx hb dL_law_765 ?_
  refine va_sld hx hb hX hbl hbA hS h1 dL_law_766 ?_
  refine lv_aload_n hx hb dL_law_767 rfl (lv_at hl 0 rfl) ?_
  refine lv_iload_n hx hb dL_law_768 rfl (lv_at hl 3 rfl) ?_
  refine lv_iconst (v := 2) hx hb dL_law_769 (by decide) ?_
  refine lv_iadd hx hb dL_law_770 ?_
  refine va_sld hx hb hX hbl hbA hS h2 dL_law_771 ?_
  have hP := va_P.swap (a := []) hP
  have hD := va_D.swap (a := []) hD
  refine zc_i (zc_runV (sh := shM) (N := 18) (ad := adM) (rs := wW shX 67 cc adX X1) (As := [.int (xs (x3 + 1).toNatClampNeg), .int (xs (x3 + 2).toNatClampNeg)]) (rest := [.int r1]) ⟨hx, hb, hml, hown, hts⟩ (c_X6_setBefore l D cc (fun q : Nat => s.heap.size ≤ q) adM (wW shX 67 cc adX X1) (xs (x3 + 1).toNatClampNeg) (xs (x3 + 2).toNatClampNeg) M0 _ h) (cwV 2 hts gL_law_X6_setBefore rfl rfl rfl (by decide +kernel) ⟨Nat.le_of_ble_eq_true rfl, Nat.le_of_ble_eq_true rfl⟩) kM_0 rfl hK hN hP hD rfl hl.1 rfl (Nat.le_of_ble_eq_true rfl) dL_law_772 hc) hS (fun r2 M1 H locs h hP hD hS => ?_)
  have hP := va_P.swap (a := []) hP
  have hD := va_D.swap (a := []) hD
  refine lv_icmp_eq (tgt := 1053) hx hb dL_law_775 (by decide) (fun c9 => ?_) (fun c9 => ?_)
  · exact kk X1 M1 H locs ls h.2 hP hD hS hl
  · exact absurd h.1 c9
set_option maxHeartbeats 4000000 in
set_option maxRecDepth 100000 in
theorem law_clearPriorities {p : Program} {l : Launch} {e : Env} {s : State} {m : MethodId} {below : List Frame} {meth : Method} {c : Code} {D : va_G} {cc : Nat → ClassId} {adX adM : Nat → Nat} {b L : Nat} {xs : Nat → Int32} {nc ns : Nat} {R : Mem → Mem → Prop} (C0 : lw_At p s m meth c b L xs) (hK : va_K D vwCl (tyL cc) s) (hN : NW s) (hc : nc ≤ room_1.cells ∧ ns ≤ room_1.slots) {X0 M0 : Mem} {x3 : Int32}  (h : f_X5_clearPriorities  X0 (fun r1 X1 => f_X6_clearPriorities  M0 (fun r2 M1 => r1 = r2 ∧ R X1 M1))) {H : Heap} {locs : List Loc} {ls : Array Slot} (hP : va_P D vwCl (wW shX 67 cc adX X0 ++ wW shM 18 cc adM M0) H) (hD : va_D (fun q : Nat => s.heap.size ≤ q) (wW shX 67 cc adX X0 ++ wW shM 18 cc adM M0)) (hS : va_S (fun q : Nat => s.heap.size ≤ q) s.heap H locs) (hl : lv_has ls 4 [(0, .ref b), (1, .ref (adX 0)), (2, .ref (adM 0)), (3, .int x3)])
    (kk : ∀ (X1 M1 : Mem) (H : Heap) (locs : List Loc) (ls : Array Slot), R X1 M1 → va_P D vwCl (wW shX 67 cc adX X1 ++ wW shM 18 cc adM M1) H → va_D (fun q : Nat => s.heap.size ≤ q) (wW shX 67 cc adX X1 ++ wW shM 18 cc adM M1) → va_S (fun q : Nat => s.heap.size ≤ q) s.heap H locs → lv_has ls 4 [(0, .ref b), (1, .ref (adX 0)), (2, .ref (adM 0)), (3, .int x3)] → W p l e room_1 s m #[Value.ref b] below meth c H locs nc ns (lw_Z below #[Value.ref b] s) (F0 m 1053 ls [])) : W p l e room_1 s m #[Value.ref b] below meth c H locs nc ns (lw_Z below #[Value.ref b] s) (F0 m 780 ls []) := by
  obtain ⟨hx, hb, hr, hml, hown, hts0, hX, hbl, hlocks, hgv⟩ := C0
  have hts : ∀ w ∈ wsL_law, w.before #[Value.ref b] s = true := fun w h => hts0 w (wsL_law_in w h)
  have hbA : ¬ (fun q : Nat => s.heap.size ≤ q) b := Nat.not_le.mpr hbl
  refine lv_aload_n hx hb dL_law_780 rfl (lv_at hl 1 rfl) ?_
  refine zc_i (zc_runV (sh := shX) (N := 67) (ad := adX) (rs := wW shM 18 cc adM M0) (As := []) (rest := []) ⟨hx, hb, hml, hown, hts⟩ (c_X5_clearPriorities l D cc (fun q : Nat => s.heap.size ≤ q) adX (wW shM 18 cc adM M0)  X0 _ h) (cwV 0 hts gL_law_X5_clearPriorities rfl rfl rfl (by decide +kernel) ⟨Nat.le_of_ble_eq_true rfl, Nat.le_of_ble_eq_true rfl⟩) kX_0 rfl hK hN hP hD rfl hl.1 rfl (Nat.le_of_ble_eq_true rfl) dL_law_781 hc) hS (fun r1 X1 H locs h hP hD hS => ?_)
  refine lv_aload_n hx hb dL_law_784 rfl (lv_at hl 2 rfl) ?_
  have hP := va_P.swap (a := []) hP
  have hD := va_D.swap (a := []) hD
  refine zc_i (zc_runV (sh := shM) (N := 18) (ad := adM) (rs := wW shX 67 cc adX X1) (As := []) (rest := [.int r1]) ⟨hx, hb, hml, hown, hts⟩ (c_X6_clearPriorities l D cc (fun q : Nat => s.heap.size ≤ q) adM (wW shX 67 cc adX X1)  M0 _ h) (cwV 0 hts gL_law_X6_clearPriorities rfl rfl rfl (by decide +kernel) ⟨Nat.le_of_ble_eq_true rfl, Nat.le_of_ble_eq_true rfl⟩) kM_0 rfl hK hN hP hD rfl hl.1 rfl (Nat.le_of_ble_eq_true rfl) dL_law_785 hc) hS (fun r2 M1 H locs h hP hD hS => ?_)
  have hP := va_P.swap (a := []) hP
  have hD := va_D.swap (a := []) hD
  refine lv_icmp_eq (tgt := 1053) hx hb dL_law_788 (by decide) (fun c9 => ?_) (fun c9 => ?_)
  · exact kk X1 M1 H locs ls h.2 hP hD hS hl
  · exact absurd h.1 c9
set_option maxHeartbeats 4000000 in
set_option maxRecDepth 100000 in
theorem law_isBefore {p : Program} {l : Launch} {e : Env} {s : State} {m : MethodId} {below : List Frame} {meth : Method} {c : Code} {D : va_G} {cc : Nat → ClassId} {adX adM : Nat → Nat} {b L : Nat} {xs : Nat → Int32} {nc ns : Nat} {R : Mem → Mem → Prop} (C0 : lw_At p s m meth c b L xs) (hK : va_K D vwCl (tyL cc) s) (hN : NW s) (hc : nc ≤ room_1.cells ∧ ns ≤ room_1.slots) {X0 M0 : Mem} {x3 : Int32} (h1 : vp_in (x3 + 1) L) (h2 : vp_in (x3 + 2) L) (h : f_X5_isBefore (xs (x3 + 1).toNatClampNeg) (xs (x3 + 2).toNatClampNeg) X0 (fun r1 X1 => f_X6_isBefore (xs (x3 + 1).toNatClampNeg) (xs (x3 + 2).toNatClampNeg) M0 (fun r2 M1 => r1 = r2 ∧ R X1 M1))) {H : Heap} {locs : List Loc} {ls : Array Slot} (hP : va_P D vwCl (wW shX 67 cc adX X0 ++ wW shM 18 cc adM M0) H) (hD : va_D (fun q : Nat => s.heap.size ≤ q) (wW shX 67 cc adX X0 ++ wW shM 18 cc adM M0)) (hS : va_S (fun q : Nat => s.heap.size ≤ q) s.heap H locs) (hl : lv_has ls 4 [(0, .ref b), (1, .ref (adX 0)), (2, .ref (adM 0)), (3, .int x3)])
    (kk : ∀ (X1 M1 : Mem) (H : Heap) (locs : List Loc) (ls : Array Slot), R X1 M1 → va_P D vwCl (wW shX 67 cc adX X1 ++ wW shM 18 cc adM M1) H → va_D (fun q : Nat => s.heap.size ≤ q) (wW shX 67 cc adX X1 ++ wW shM 18 cc adM M1) → va_S (fun q : Nat => s.heap.size ≤ q) s.heap H locs → lv_has ls 4 [(0, .ref b), (1, .ref (adX 0)), (2, .ref (adM 0)), (3, .int x3)] → W p l e room_1 s m #[Value.ref b] below meth c H locs nc ns (lw_Z below #[Value.ref b] s) (F0 m 1053 ls [])) : W p l e room_1 s m #[Value.ref b] below meth c H locs nc ns (lw_Z below #[Value.ref b] s) (F0 m 793 ls []) := by
  obtain ⟨hx, hb, hr, hml, hown, hts0, hX, hbl, hlocks, hgv⟩ := C0
  have hts : ∀ w ∈ wsL_law, w.before #[Value.ref b] s = true := fun w h => hts0 w (wsL_law_in w h)
  have hbA : ¬ (fun q : Nat => s.heap.size ≤ q) b := Nat.not_le.mpr hbl
  refine lv_aload_n hx hb dL_law_793 rfl (lv_at hl 1 rfl) ?_
  refine lv_aload_n hx hb dL_law_794 rfl (lv_at hl 0 rfl) ?_
  refine lv_iload_n hx hb dL_law_795 rfl (lv_at hl 3 rfl) ?_
  refine lv_iconst (v := 1) hx hb dL_law_796 (by decide) ?_
  refine lv_iadd hx hb dL_law_797 ?_
  refine va_sld hx hb hX hbl hbA hS h1 dL_law_798 ?_
  refine lv_aload_n hx hb dL_law_799 rfl (lv_at hl 0 rfl) ?_
  refine lv_iload_n hx hb dL_law_800 rfl (lv_at hl 3 rfl) ?_
  refine lv_iconst (v := 2) hx hb dL_law_801 (by decide) ?_
  refine lv_iadd hx hb dL_law_802 ?_
  refine va_sld hx hb hX hbl hbA hS h2 dL_law_803 ?_
  refine zc_i (zc_runV (sh := shX) (N := 67) (ad := adX) (rs := wW shM 18 cc adM M0) (As := [.int (xs (x3 + 1).toNatClampNeg), .int (xs (x3 + 2).toNatClampNeg)]) (rest := []) ⟨hx, hb, hml, hown, hts⟩ (c_X5_isBefore l D cc (fun q : Nat => s.heap.size ≤ q) adX (wW shM 18 cc adM M0) (xs (x3 + 1).toNatClampNeg) (xs (x3 + 2).toNatClampNeg) X0 _ h) (cwV 2 hts gL_law_X5_isBefore rfl rfl rfl (by decide +kernel) ⟨Nat.le_of_ble_eq_true rfl, Nat.le_of_ble_eq_true rfl⟩) kX_0 rfl hK hN hP hD rfl hl.1 rfl (Nat.le_of_ble_eq_true rfl) dL_law_804 hc) hS (fun r1 X1 H locs h hP hD hS => ?_)
  refine lv_aload_n hx hb dL_law_807 rfl (lv_at hl 2 rfl) ?_
  refine lv_aload_n hx hb dL_law_808 rfl (lv_at hl 0 rfl) ?_
  refine lv_iload_n hx hb dL_law_809 rfl (lv_at hl 3 rfl) ?_
  refine lv_iconst (v := 1) hx hb dL_law_810 (by decide) ?_
  refine lv_iadd hx hb dL_law_811 ?_
  refine va_sld hx hb hX hbl hbA hS h1 dL_law_812 ?_
  refine lv_aload_n hx hb dL_law_813 rfl (lv_at hl 0 rfl) ?_
  refine lv_iload_n hx hb dL_law_814 rfl (lv_at hl 3 rfl) ?_
  refine lv_iconst (v := 2) hx hb dL_law_815 (by decide) ?_
  refine lv_iadd hx hb dL_law_816 ?_
  refine va_sld hx hb hX hbl hbA hS h2 dL_law_817 ?_
  have hP := va_P.swap (a := []) hP
  have hD := va_D.swap (a := []) hD
  refine zc_i (zc_runV (sh := shM) (N := 18) (ad := adM) (rs := wW shX 67 cc adX X1) (As := [.int (xs (x3 + 1).toNatClampNeg), .int (xs (x3 + 2).toNatClampNeg)]) (rest := [.int r1]) ⟨hx, hb, hml, hown, hts⟩ (c_X6_isBefore l D cc (fun q : Nat => s.heap.size ≤ q) adM (wW shX 67 cc adX X1) (xs (x3 + 1).toNatClampNeg) (xs (x3 + 2).toNatClampNeg) M0 _ h) (cwV 2 hts gL_law_X6_isBefore rfl rfl rfl (by decide +kernel) ⟨Nat.le_of_ble_eq_true rfl, Nat.le_of_ble_eq_true rfl⟩) kM_0 rfl hK hN hP hD rfl hl.1 rfl (Nat.le_of_ble_eq_true rfl) dL_law_818 hc) hS (fun r2 M1 H locs h hP hD hS => ?_)
  have hP := va_P.swap (a := []) hP
  have hD := va_D.swap (a := []) hD
  refine lv_icmp_eq (tgt := 1053) hx hb dL_law_821 (by decide) (fun c9 => ?_) (fun c9 => ?_)
  · exact kk X1 M1 H locs ls h.2 hP hD hS hl
  · exact absurd h.1 c9
set_option maxHeartbeats 4000000 in
set_option maxRecDepth 100000 in
theorem law_orders {p : Program} {l : Launch} {e : Env} {s : State} {m : MethodId} {below : List Frame} {meth : Method} {c : Code} {D : va_G} {cc : Nat → ClassId} {adX adM : Nat → Nat} {b L : Nat} {xs : Nat → Int32} {nc ns : Nat} {R : Mem → Mem → Prop} (C0 : lw_At p s m meth c b L xs) (hK : va_K D vwCl (tyL cc) s) (hN : NW s) (hc : nc ≤ room_1.cells ∧ ns ≤ room_1.slots) {X0 M0 : Mem} {x3 : Int32}  (h : f_X5_orders  X0 (fun r1 X1 => f_X6_orders  M0 (fun r2 M1 => r1 = r2 ∧ R X1 M1))) {H : Heap} {locs : List Loc} {ls : Array Slot} (hP : va_P D vwCl (wW shX 67 cc adX X0 ++ wW shM 18 cc adM M0) H) (hD : va_D (fun q : Nat => s.heap.size ≤ q) (wW shX 67 cc adX X0 ++ wW shM 18 cc adM M0)) (hS : va_S (fun q : Nat => s.heap.size ≤ q) s.heap H locs) (hl : lv_has ls 4 [(0, .ref b), (1, .ref (adX 0)), (2, .ref (adM 0)), (3, .int x3)])
    (kk : ∀ (X1 M1 : Mem) (H : Heap) (locs : List Loc) (ls : Array Slot), R X1 M1 → va_P D vwCl (wW shX 67 cc adX X1 ++ wW shM 18 cc adM M1) H → va_D (fun q : Nat => s.heap.size ≤ q) (wW shX 67 cc adX X1 ++ wW shM 18 cc adM M1) → va_S (fun q : Nat => s.heap.size ≤ q) s.heap H locs → lv_has ls 4 [(0, .ref b), (1, .ref (adX 0)), (2, .ref (adM 0)), (3, .int x3)] → W p l e room_1 s m #[Value.ref b] below meth c H locs nc ns (lw_Z below #[Value.ref b] s) (F0 m 1053 ls [])) : W p l e room_1 s m #[Value.ref b] below meth c H locs nc ns (lw_Z below #[Value.ref b] s) (F0 m 826 ls []) := by
  obtain ⟨hx, hb, hr, hml, hown, hts0, hX, hbl, hlocks, hgv⟩ := C0
  have hts : ∀ w ∈ wsL_law, w.before #[Value.ref b] s = true := fun w h => hts0 w (wsL_law_in w h)
  have hbA : ¬ (fun q : Nat => s.heap.size ≤ q) b := Nat.not_le.mpr hbl
  refine lv_aload_n hx hb dL_law_826 rfl (lv_at hl 1 rfl) ?_
  refine zc_i (zc_runV (sh := shX) (N := 67) (ad := adX) (rs := wW shM 18 cc adM M0) (As := []) (rest := []) ⟨hx, hb, hml, hown, hts⟩ (c_X5_orders l D cc (fun q : Nat => s.heap.size ≤ q) adX (wW shM 18 cc adM M0)  X0 _ h) (cwV 0 hts gL_law_X5_orders rfl rfl rfl (by decide +kernel) ⟨Nat.le_of_ble_eq_true rfl, Nat.le_of_ble_eq_true rfl⟩) kX_0 rfl hK hN hP hD rfl hl.1 rfl (Nat.le_of_ble_eq_true rfl) dL_law_827 hc) hS (fun r1 X1 H locs h hP hD hS => ?_)
  refine lv_aload_n hx hb dL_law_830 rfl (lv_at hl 2 rfl) ?_
  have hP := va_P.swap (a := []) hP
  have hD := va_D.swap (a := []) hD
  refine zc_i (zc_runV (sh := shM) (N := 18) (ad := adM) (rs := wW shX 67 cc adX X1) (As := []) (rest := [.int r1]) ⟨hx, hb, hml, hown, hts⟩ (c_X6_orders l D cc (fun q : Nat => s.heap.size ≤ q) adM (wW shX 67 cc adX X1)  M0 _ h) (cwV 0 hts gL_law_X6_orders rfl rfl rfl (by decide +kernel) ⟨Nat.le_of_ble_eq_true rfl, Nat.le_of_ble_eq_true rfl⟩) kM_0 rfl hK hN hP hD rfl hl.1 rfl (Nat.le_of_ble_eq_true rfl) dL_law_831 hc) hS (fun r2 M1 H locs h hP hD hS => ?_)
  have hP := va_P.swap (a := []) hP
  have hD := va_D.swap (a := []) hD
  refine lv_icmp_eq (tgt := 1053) hx hb dL_law_834 (by decide) (fun c9 => ?_) (fun c9 => ?_)
  · exact kk X1 M1 H locs ls h.2 hP hD hS hl
  · exact absurd h.1 c9
set_option maxHeartbeats 4000000 in
set_option maxRecDepth 100000 in
theorem law_resolved {p : Program} {l : Launch} {e : Env} {s : State} {m : MethodId} {below : List Frame} {meth : Method} {c : Code} {D : va_G} {cc : Nat → ClassId} {adX adM : Nat → Nat} {b L : Nat} {xs : Nat → Int32} {nc ns : Nat} {R : Mem → Mem → Prop} (C0 : lw_At p s m meth c b L xs) (hK : va_K D vwCl (tyL cc) s) (hN : NW s) (hc : nc ≤ room_1.cells ∧ ns ≤ room_1.slots) {X0 M0 : Mem} {x3 : Int32} (h1 : vp_in (x3 + 1) L) (h : f_X5_resolved (xs (x3 + 1).toNatClampNeg) X0 (fun r1 X1 => f_X6_resolved (xs (x3 + 1).toNatClampNeg) M0 (fun r2 M1 => r1 = r2 ∧ R X1 M1))) {H : Heap} {locs : List Loc} {ls : Array Slot} (hP : va_P D vwCl (wW shX 67 cc adX X0 ++ wW shM 18 cc adM M0) H) (hD : va_D (fun q : Nat => s.heap.size ≤ q) (wW shX 67 cc adX X0 ++ wW shM 18 cc adM M0)) (hS : va_S (fun q : Nat => s.heap.size ≤ q) s.heap H locs) (hl : lv_has ls 4 [(0, .ref b), (1, .ref (adX 0)), (2, .ref (adM 0)), (3, .int x3)])
    (kk : ∀ (X1 M1 : Mem) (H : Heap) (locs : List Loc) (ls : Array Slot), R X1 M1 → va_P D vwCl (wW shX 67 cc adX X1 ++ wW shM 18 cc adM M1) H → va_D (fun q : Nat => s.heap.size ≤ q) (wW shX 67 cc adX X1 ++ wW shM 18 cc adM M1) → va_S (fun q : Nat => s.heap.size ≤ q) s.heap H locs → lv_has ls 4 [(0, .ref b), (1, .ref (adX 0)), (2, .ref (adM 0)), (3, .int x3)] → W p l e room_1 s m #[Value.ref b] below meth c H locs nc ns (lw_Z below #[Value.ref b] s) (F0 m 1053 ls [])) : W p l e room_1 s m #[Value.ref b] below meth c H locs nc ns (lw_Z below #[Value.ref b] s) (F0 m 839 ls []) := by
  obtain ⟨hx, hb, hr, hml, hown, hts0, hX, hbl, hlocks, hgv⟩ := C0
  have hts : ∀ w ∈ wsL_law, w.before #[Value.ref b] s = true := fun w h => hts0 w (wsL_law_in w h)
  have hbA : ¬ (fun q : Nat => s.heap.size ≤ q) b := Nat.not_le.mpr hbl
  refine lv_aload_n hx hb dL_law_839 rfl (lv_at hl 1 rfl) ?_
  refine lv_aload_n hx hb dL_law_840 rfl (lv_at hl 0 rfl) ?_
  refine lv_iload_n hx hb dL_law_841 rfl (lv_at hl 3 rfl) ?_
  refine lv_iconst (v := 1) hx hb dL_law_842 (by decide) ?_
  refine lv_iadd hx hb dL_law_843 ?_
  refine va_sld hx hb hX hbl hbA hS h1 dL_law_844 ?_
  refine zc_i (zc_runV (sh := shX) (N := 67) (ad := adX) (rs := wW shM 18 cc adM M0) (As := [.int (xs (x3 + 1).toNatClampNeg)]) (rest := []) ⟨hx, hb, hml, hown, hts⟩ (c_X5_resolved l D cc (fun q : Nat => s.heap.size ≤ q) adX (wW shM 18 cc adM M0) (xs (x3 + 1).toNatClampNeg) X0 _ h) (cwV 1 hts gL_law_X5_resolved rfl rfl rfl (by decide +kernel) ⟨Nat.le_of_ble_eq_true rfl, Nat.le_of_ble_eq_true rfl⟩) kX_0 rfl hK hN hP hD rfl hl.1 rfl (Nat.le_of_ble_eq_true rfl) dL_law_845 hc) hS (fun r1 X1 H locs h hP hD hS => ?_)
  refine lv_aload_n hx hb dL_law_848 rfl (lv_at hl 2 rfl) ?_
  refine lv_aload_n hx hb dL_law_849 rfl (lv_at hl 0 rfl) ?_
  refine lv_iload_n hx hb dL_law_850 rfl (lv_at hl 3 rfl) ?_
  refine lv_iconst (v := 1) hx hb dL_law_851 (by decide) ?_
  refine lv_iadd hx hb dL_law_852 ?_
  refine va_sld hx hb hX hbl hbA hS h1 dL_law_853 ?_
  have hP := va_P.swap (a := []) hP
  have hD := va_D.swap (a := []) hD
  refine zc_i (zc_runV (sh := shM) (N := 18) (ad := adM) (rs := wW shX 67 cc adX X1) (As := [.int (xs (x3 + 1).toNatClampNeg)]) (rest := [.int r1]) ⟨hx, hb, hml, hown, hts⟩ (c_X6_resolved l D cc (fun q : Nat => s.heap.size ≤ q) adM (wW shX 67 cc adX X1) (xs (x3 + 1).toNatClampNeg) M0 _ h) (cwV 1 hts gL_law_X6_resolved rfl rfl rfl (by decide +kernel) ⟨Nat.le_of_ble_eq_true rfl, Nat.le_of_ble_eq_true rfl⟩) kM_0 rfl hK hN hP hD rfl hl.1 rfl (Nat.le_of_ble_eq_true rfl) dL_law_854 hc) hS (fun r2 M1 H locs h hP hD hS => ?_)
  have hP := va_P.swap (a := []) hP
  have hD := va_D.swap (a := []) hD
  refine lv_icmp_eq (tgt := 1053) hx hb dL_law_857 (by decide) (fun c9 => ?_) (fun c9 => ?_)
  · exact kk X1 M1 H locs ls h.2 hP hD hS hl
  · exact absurd h.1 c9
set_option maxHeartbeats 4000000 in
set_option maxRecDepth 100000 in
theorem law_open {p : Program} {l : Launch} {e : Env} {s : State} {m : MethodId} {below : List Frame} {meth : Method} {c : Code} {D : va_G} {cc : Nat → ClassId} {adX adM : Nat → Nat} {b L : Nat} {xs : Nat → Int32} {nc ns : Nat} {R : Mem → Mem → Prop} (C0 : lw_At p s m meth c b L xs) (hK : va_K D vwCl (tyL cc) s) (hN : NW s) (hc : nc ≤ room_1.cells ∧ ns ≤ room_1.slots) {X0 M0 : Mem} {x3 : Int32}  (h : f_X5_open  X0 (fun r1 X1 => f_X6_open  M0 (fun r2 M1 => r1 = r2 ∧ R X1 M1))) {H : Heap} {locs : List Loc} {ls : Array Slot} (hP : va_P D vwCl (wW shX 67 cc adX X0 ++ wW shM 18 cc adM M0) H) (hD : va_D (fun q : Nat => s.heap.size ≤ q) (wW shX 67 cc adX X0 ++ wW shM 18 cc adM M0)) (hS : va_S (fun q : Nat => s.heap.size ≤ q) s.heap H locs) (hl : lv_has ls 4 [(0, .ref b), (1, .ref (adX 0)), (2, .ref (adM 0)), (3, .int x3)])
    (kk : ∀ (X1 M1 : Mem) (H : Heap) (locs : List Loc) (ls : Array Slot), R X1 M1 → va_P D vwCl (wW shX 67 cc adX X1 ++ wW shM 18 cc adM M1) H → va_D (fun q : Nat => s.heap.size ≤ q) (wW shX 67 cc adX X1 ++ wW shM 18 cc adM M1) → va_S (fun q : Nat => s.heap.size ≤ q) s.heap H locs → lv_has ls 4 [(0, .ref b), (1, .ref (adX 0)), (2, .ref (adM 0)), (3, .int x3)] → W p l e room_1 s m #[Value.ref b] below meth c H locs nc ns (lw_Z below #[Value.ref b] s) (F0 m 1053 ls [])) : W p l e room_1 s m #[Value.ref b] below meth c H locs nc ns (lw_Z below #[Value.ref b] s) (F0 m 862 ls []) := by
  obtain ⟨hx, hb, hr, hml, hown, hts0, hX, hbl, hlocks, hgv⟩ := C0
  have hts : ∀ w ∈ wsL_law, w.before #[Value.ref b] s = true := fun w h => hts0 w (wsL_law_in w h)
  have hbA : ¬ (fun q : Nat => s.heap.size ≤ q) b := Nat.not_le.mpr hbl
  refine lv_aload_n hx hb dL_law_862 rfl (lv_at hl 1 rfl) ?_
  refine zc_i (zc_runV (sh := shX) (N := 67) (ad := adX) (rs := wW shM 18 cc adM M0) (As := []) (rest := []) ⟨hx, hb, hml, hown, hts⟩ (c_X5_open l D cc (fun q : Nat => s.heap.size ≤ q) adX (wW shM 18 cc adM M0)  X0 _ h) (cwV 0 hts gL_law_X5_open rfl rfl rfl (by decide +kernel) ⟨Nat.le_of_ble_eq_true rfl, Nat.le_of_ble_eq_true rfl⟩) kX_0 rfl hK hN hP hD rfl hl.1 rfl (Nat.le_of_ble_eq_true rfl) dL_law_863 hc) hS (fun r1 X1 H locs h hP hD hS => ?_)
  refine lv_aload_n hx hb dL_law_866 rfl (lv_at hl 2 rfl) ?_
  have hP := va_P.swap (a := []) hP
  have hD := va_D.swap (a := []) hD
  refine zc_i (zc_runV (sh := shM) (N := 18) (ad := adM) (rs := wW shX 67 cc adX X1) (As := []) (rest := [.int r1]) ⟨hx, hb, hml, hown, hts⟩ (c_X6_open l D cc (fun q : Nat => s.heap.size ≤ q) adM (wW shX 67 cc adX X1)  M0 _ h) (cwV 0 hts gL_law_X6_open rfl rfl rfl (by decide +kernel) ⟨Nat.le_of_ble_eq_true rfl, Nat.le_of_ble_eq_true rfl⟩) kM_0 rfl hK hN hP hD rfl hl.1 rfl (Nat.le_of_ble_eq_true rfl) dL_law_867 hc) hS (fun r2 M1 H locs h hP hD hS => ?_)
  have hP := va_P.swap (a := []) hP
  have hD := va_D.swap (a := []) hD
  refine lv_icmp_eq (tgt := 1053) hx hb dL_law_870 (by decide) (fun c9 => ?_) (fun c9 => ?_)
  · exact kk X1 M1 H locs ls h.2 hP hD hS hl
  · exact absurd h.1 c9
set_option maxHeartbeats 4000000 in
set_option maxRecDepth 100000 in
theorem law_isResolved {p : Program} {l : Launch} {e : Env} {s : State} {m : MethodId} {below : List Frame} {meth : Method} {c : Code} {D : va_G} {cc : Nat → ClassId} {adX adM : Nat → Nat} {b L : Nat} {xs : Nat → Int32} {nc ns : Nat} {R : Mem → Mem → Prop} (C0 : lw_At p s m meth c b L xs) (hK : va_K D vwCl (tyL cc) s) (hN : NW s) (hc : nc ≤ room_1.cells ∧ ns ≤ room_1.slots) {X0 M0 : Mem} {x3 : Int32}  (h : f_X5_isResolved  X0 (fun r1 X1 => f_X6_isResolved  M0 (fun r2 M1 => r1 = r2 ∧ R X1 M1))) {H : Heap} {locs : List Loc} {ls : Array Slot} (hP : va_P D vwCl (wW shX 67 cc adX X0 ++ wW shM 18 cc adM M0) H) (hD : va_D (fun q : Nat => s.heap.size ≤ q) (wW shX 67 cc adX X0 ++ wW shM 18 cc adM M0)) (hS : va_S (fun q : Nat => s.heap.size ≤ q) s.heap H locs) (hl : lv_has ls 4 [(0, .ref b), (1, .ref (adX 0)), (2, .ref (adM 0)), (3, .int x3)])
    (kk : ∀ (X1 M1 : Mem) (H : Heap) (locs : List Loc) (ls : Array Slot), R X1 M1 → va_P D vwCl (wW shX 67 cc adX X1 ++ wW shM 18 cc adM M1) H → va_D (fun q : Nat => s.heap.size ≤ q) (wW shX 67 cc adX X1 ++ wW shM 18 cc adM M1) → va_S (fun q : Nat => s.heap.size ≤ q) s.heap H locs → lv_has ls 4 [(0, .ref b), (1, .ref (adX 0)), (2, .ref (adM 0)), (3, .int x3)] → W p l e room_1 s m #[Value.ref b] below meth c H locs nc ns (lw_Z below #[Value.ref b] s) (F0 m 1053 ls [])) : W p l e room_1 s m #[Value.ref b] below meth c H locs nc ns (lw_Z below #[Value.ref b] s) (F0 m 875 ls []) := by
  obtain ⟨hx, hb, hr, hml, hown, hts0, hX, hbl, hlocks, hgv⟩ := C0
  have hts : ∀ w ∈ wsL_law, w.before #[Value.ref b] s = true := fun w h => hts0 w (wsL_law_in w h)
  have hbA : ¬ (fun q : Nat => s.heap.size ≤ q) b := Nat.not_le.mpr hbl
  refine lv_aload_n hx hb dL_law_875 rfl (lv_at hl 1 rfl) ?_
  refine zc_i (zc_runV (sh := shX) (N := 67) (ad := adX) (rs := wW shM 18 cc adM M0) (As := []) (rest := []) ⟨hx, hb, hml, hown, hts⟩ (c_X5_isResolved l D cc (fun q : Nat => s.heap.size ≤ q) adX (wW shM 18 cc adM M0)  X0 _ h) (cwV 0 hts gL_law_X5_isResolved rfl rfl rfl (by decide +kernel) ⟨Nat.le_of_ble_eq_true rfl, Nat.le_of_ble_eq_true rfl⟩) kX_0 rfl hK hN hP hD rfl hl.1 rfl (Nat.le_of_ble_eq_true rfl) dL_law_876 hc) hS (fun r1 X1 H locs h hP hD hS => ?_)
  refine lv_aload_n hx hb dL_law_879 rfl (lv_at hl 2 rfl) ?_
  have hP := va_P.swap (a := []) hP
  have hD := va_D.swap (a := []) hD
  refine zc_i (zc_runV (sh := shM) (N := 18) (ad := adM) (rs := wW shX 67 cc adX X1) (As := []) (rest := [.int r1]) ⟨hx, hb, hml, hown, hts⟩ (c_X6_isResolved l D cc (fun q : Nat => s.heap.size ≤ q) adM (wW shX 67 cc adX X1)  M0 _ h) (cwV 0 hts gL_law_X6_isResolved rfl rfl rfl (by decide +kernel) ⟨Nat.le_of_ble_eq_true rfl, Nat.le_of_ble_eq_true rfl⟩) kM_0 rfl hK hN hP hD rfl hl.1 rfl (Nat.le_of_ble_eq_true rfl) dL_law_880 hc) hS (fun r2 M1 H locs h hP hD hS => ?_)
  have hP := va_P.swap (a := []) hP
  have hD := va_D.swap (a := []) hD
  refine lv_icmp_eq (tgt := 1053) hx hb dL_law_883 (by decide) (fun c9 => ?_) (fun c9 => ?_)
  · exact kk X1 M1 H locs ls h.2 hP hD hS hl
  · exact absurd h.1 c9
set_option maxHeartbeats 4000000 in
set_option maxRecDepth 100000 in
theorem law_resolve {p : Program} {l : Launch} {e : Env} {s : State} {m : MethodId} {below : List Frame} {meth : Method} {c : Code} {D : va_G} {cc : Nat → ClassId} {adX adM : Nat → Nat} {b L : Nat} {xs : Nat → Int32} {nc ns : Nat} {R : Mem → Mem → Prop} (C0 : lw_At p s m meth c b L xs) (hK : va_K D vwCl (tyL cc) s) (hN : NW s) (hc : nc ≤ room_1.cells ∧ ns ≤ room_1.slots) {X0 M0 : Mem} {x3 : Int32}  (h : f_X5_resolve  X0 (fun r1 X1 => f_X6_resolve  M0 (fun r2 M1 => r1 = r2 ∧ R X1 M1))) {H : Heap} {locs : List Loc} {ls : Array Slot} (hP : va_P D vwCl (wW shX 67 cc adX X0 ++ wW shM 18 cc adM M0) H) (hD : va_D (fun q : Nat => s.heap.size ≤ q) (wW shX 67 cc adX X0 ++ wW shM 18 cc adM M0)) (hS : va_S (fun q : Nat => s.heap.size ≤ q) s.heap H locs) (hl : lv_has ls 4 [(0, .ref b), (1, .ref (adX 0)), (2, .ref (adM 0)), (3, .int x3)])
    (kk : ∀ (X1 M1 : Mem) (H : Heap) (locs : List Loc) (ls : Array Slot), R X1 M1 → va_P D vwCl (wW shX 67 cc adX X1 ++ wW shM 18 cc adM M1) H → va_D (fun q : Nat => s.heap.size ≤ q) (wW shX 67 cc adX X1 ++ wW shM 18 cc adM M1) → va_S (fun q : Nat => s.heap.size ≤ q) s.heap H locs → lv_has ls 4 [(0, .ref b), (1, .ref (adX 0)), (2, .ref (adM 0)), (3, .int x3)] → W p l e room_1 s m #[Value.ref b] below meth c H locs nc ns (lw_Z below #[Value.ref b] s) (F0 m 1053 ls [])) : W p l e room_1 s m #[Value.ref b] below meth c H locs nc ns (lw_Z below #[Value.ref b] s) (F0 m 888 ls []) := by
  obtain ⟨hx, hb, hr, hml, hown, hts0, hX, hbl, hlocks, hgv⟩ := C0
  have hts : ∀ w ∈ wsL_law, w.before #[Value.ref b] s = true := fun w h => hts0 w (wsL_law_in w h)
  have hbA : ¬ (fun q : Nat => s.heap.size ≤ q) b := Nat.not_le.mpr hbl
  refine lv_aload_n hx hb dL_law_888 rfl (lv_at hl 1 rfl) ?_
  refine zc_i (zc_runV (sh := shX) (N := 67) (ad := adX) (rs := wW shM 18 cc adM M0) (As := []) (rest := []) ⟨hx, hb, hml, hown, hts⟩ (c_X5_resolve l D cc (fun q : Nat => s.heap.size ≤ q) adX (wW shM 18 cc adM M0)  X0 _ h) (cwV 0 hts gL_law_X5_resolve rfl rfl rfl (by decide +kernel) ⟨Nat.le_of_ble_eq_true rfl, Nat.le_of_ble_eq_true rfl⟩) kX_0 rfl hK hN hP hD rfl hl.1 rfl (Nat.le_of_ble_eq_true rfl) dL_law_889 hc) hS (fun r1 X1 H locs h hP hD hS => ?_)
  refine lv_aload_n hx hb dL_law_892 rfl (lv_at hl 2 rfl) ?_
  have hP := va_P.swap (a := []) hP
  have hD := va_D.swap (a := []) hD
  refine zc_i (zc_runV (sh := shM) (N := 18) (ad := adM) (rs := wW shX 67 cc adX X1) (As := []) (rest := [.int r1]) ⟨hx, hb, hml, hown, hts⟩ (c_X6_resolve l D cc (fun q : Nat => s.heap.size ≤ q) adM (wW shX 67 cc adX X1)  M0 _ h) (cwV 0 hts gL_law_X6_resolve rfl rfl rfl (by decide +kernel) ⟨Nat.le_of_ble_eq_true rfl, Nat.le_of_ble_eq_true rfl⟩) kM_0 rfl hK hN hP hD rfl hl.1 rfl (Nat.le_of_ble_eq_true rfl) dL_law_893 hc) hS (fun r2 M1 H locs h hP hD hS => ?_)
  have hP := va_P.swap (a := []) hP
  have hD := va_D.swap (a := []) hD
  refine lv_icmp_eq (tgt := 1053) hx hb dL_law_896 (by decide) (fun c9 => ?_) (fun c9 => ?_)
  · exact kk X1 M1 H locs ls h.2 hP hD hS hl
  · exact absurd h.1 c9
set_option maxHeartbeats 4000000 in
set_option maxRecDepth 100000 in
theorem law_add {p : Program} {l : Launch} {e : Env} {s : State} {m : MethodId} {below : List Frame} {meth : Method} {c : Code} {D : va_G} {cc : Nat → ClassId} {adX adM : Nat → Nat} {b L : Nat} {xs : Nat → Int32} {nc ns : Nat} {R : Mem → Mem → Prop} (C0 : lw_At p s m meth c b L xs) (hK : va_K D vwCl (tyL cc) s) (hN : NW s) (hc : nc ≤ room_1.cells ∧ ns ≤ room_1.slots) {X0 M0 : Mem} {x3 : Int32} (h1 : vp_in (x3 + 1) L) (h : f_X5_add (xs (x3 + 1).toNatClampNeg) X0 (fun r1 X1 => f_X6_add (xs (x3 + 1).toNatClampNeg) M0 (fun r2 M1 => r1 = r2 ∧ R X1 M1))) {H : Heap} {locs : List Loc} {ls : Array Slot} (hP : va_P D vwCl (wW shX 67 cc adX X0 ++ wW shM 18 cc adM M0) H) (hD : va_D (fun q : Nat => s.heap.size ≤ q) (wW shX 67 cc adX X0 ++ wW shM 18 cc adM M0)) (hS : va_S (fun q : Nat => s.heap.size ≤ q) s.heap H locs) (hl : lv_has ls 4 [(0, .ref b), (1, .ref (adX 0)), (2, .ref (adM 0)), (3, .int x3)])
    (kk : ∀ (X1 M1 : Mem) (H : Heap) (locs : List Loc) (ls : Array Slot), R X1 M1 → va_P D vwCl (wW shX 67 cc adX X1 ++ wW shM 18 cc adM M1) H → va_D (fun q : Nat => s.heap.size ≤ q) (wW shX 67 cc adX X1 ++ wW shM 18 cc adM M1) → va_S (fun q : Nat => s.heap.size ≤ q) s.heap H locs → lv_has ls 4 [(0, .ref b), (1, .ref (adX 0)), (2, .ref (adM 0)), (3, .int x3)] → W p l e room_1 s m #[Value.ref b] below meth c H locs nc ns (lw_Z below #[Value.ref b] s) (F0 m 1053 ls [])) : W p l e room_1 s m #[Value.ref b] below meth c H locs nc ns (lw_Z below #[Value.ref b] s) (F0 m 901 ls []) := by
  obtain ⟨hx, hb, hr, hml, hown, hts0, hX, hbl, hlocks, hgv⟩ := C0
  have hts : ∀ w ∈ wsL_law, w.before #[Value.ref b] s = true := fun w h => hts0 w (wsL_law_in w h)
  have hbA : ¬ (fun q : Nat => s.heap.size ≤ q) b := Nat.not_le.mpr hbl
  refine lv_aload_n hx hb dL_law_901 rfl (lv_at hl 1 rfl) ?_
  refine lv_aload_n hx hb dL_law_902 rfl (lv_at hl 0 rfl) ?_
  refine lv_iload_n hx hb dL_law_903 rfl (lv_at hl 3 rfl) ?_
  refine lv_iconst (v := 1) hx hb dL_law_904 (by decide) ?_
  refine lv_iadd hx hb dL_law_905 ?_
  refine va_sld hx hb hX hbl hbA hS h1 dL_law_906 ?_
  refine zc_i (zc_runV (sh := shX) (N := 67) (ad := adX) (rs := wW shM 18 cc adM M0) (As := [.int (xs (x3 + 1).toNatClampNeg)]) (rest := []) ⟨hx, hb, hml, hown, hts⟩ (c_X5_add l D cc (fun q : Nat => s.heap.size ≤ q) adX (wW shM 18 cc adM M0) (xs (x3 + 1).toNatClampNeg) X0 _ h) (cwV 1 hts gL_law_X5_add rfl rfl rfl (by decide +kernel) ⟨Nat.le_of_ble_eq_true rfl, Nat.le_of_ble_eq_true rfl⟩) kX_0 rfl hK hN hP hD rfl hl.1 rfl (Nat.le_of_ble_eq_true rfl) dL_law_907 hc) hS (fun r1 X1 H locs h hP hD hS => ?_)
  refine lv_aload_n hx hb dL_law_910 rfl (lv_at hl 2 rfl) ?_
  refine lv_aload_n hx hb dL_law_911 rfl (lv_at hl 0 rfl) ?_
  refine lv_iload_n hx hb dL_law_912 rfl (lv_at hl 3 rfl) ?_
  refine lv_iconst (v := 1) hx hb dL_law_913 (by decide) ?_
  refine lv_iadd hx hb dL_law_914 ?_
  refine va_sld hx hb hX hbl hbA hS h1 dL_law_915 ?_
  have hP := va_P.swap (a := []) hP
  have hD := va_D.swap (a := []) hD
  refine zc_i (zc_runV (sh := shM) (N := 18) (ad := adM) (rs := wW shX 67 cc adX X1) (As := [.int (xs (x3 + 1).toNatClampNeg)]) (rest := [.int r1]) ⟨hx, hb, hml, hown, hts⟩ (c_X6_add l D cc (fun q : Nat => s.heap.size ≤ q) adM (wW shX 67 cc adX X1) (xs (x3 + 1).toNatClampNeg) M0 _ h) (cwV 1 hts gL_law_X6_add rfl rfl rfl (by decide +kernel) ⟨Nat.le_of_ble_eq_true rfl, Nat.le_of_ble_eq_true rfl⟩) kM_0 rfl hK hN hP hD rfl hl.1 rfl (Nat.le_of_ble_eq_true rfl) dL_law_916 hc) hS (fun r2 M1 H locs h hP hD hS => ?_)
  have hP := va_P.swap (a := []) hP
  have hD := va_D.swap (a := []) hD
  refine lv_icmp_eq (tgt := 1053) hx hb dL_law_919 (by decide) (fun c9 => ?_) (fun c9 => ?_)
  · exact kk X1 M1 H locs ls h.2 hP hD hS hl
  · exact absurd h.1 c9
set_option maxHeartbeats 4000000 in
set_option maxRecDepth 100000 in
theorem law_clearWord {p : Program} {l : Launch} {e : Env} {s : State} {m : MethodId} {below : List Frame} {meth : Method} {c : Code} {D : va_G} {cc : Nat → ClassId} {adX adM : Nat → Nat} {b L : Nat} {xs : Nat → Int32} {nc ns : Nat} {R : Mem → Mem → Prop} (C0 : lw_At p s m meth c b L xs) (hK : va_K D vwCl (tyL cc) s) (hN : NW s) (hc : nc ≤ room_1.cells ∧ ns ≤ room_1.slots) {X0 M0 : Mem} {x3 : Int32}  (h : f_X5_clearWord  X0 (fun r1 X1 => f_X6_clearWord  M0 (fun r2 M1 => r1 = r2 ∧ R X1 M1))) {H : Heap} {locs : List Loc} {ls : Array Slot} (hP : va_P D vwCl (wW shX 67 cc adX X0 ++ wW shM 18 cc adM M0) H) (hD : va_D (fun q : Nat => s.heap.size ≤ q) (wW shX 67 cc adX X0 ++ wW shM 18 cc adM M0)) (hS : va_S (fun q : Nat => s.heap.size ≤ q) s.heap H locs) (hl : lv_has ls 4 [(0, .ref b), (1, .ref (adX 0)), (2, .ref (adM 0)), (3, .int x3)])
    (kk : ∀ (X1 M1 : Mem) (H : Heap) (locs : List Loc) (ls : Array Slot), R X1 M1 → va_P D vwCl (wW shX 67 cc adX X1 ++ wW shM 18 cc adM M1) H → va_D (fun q : Nat => s.heap.size ≤ q) (wW shX 67 cc adX X1 ++ wW shM 18 cc adM M1) → va_S (fun q : Nat => s.heap.size ≤ q) s.heap H locs → lv_has ls 4 [(0, .ref b), (1, .ref (adX 0)), (2, .ref (adM 0)), (3, .int x3)] → W p l e room_1 s m #[Value.ref b] below meth c H locs nc ns (lw_Z below #[Value.ref b] s) (F0 m 1053 ls [])) : W p l e room_1 s m #[Value.ref b] below meth c H locs nc ns (lw_Z below #[Value.ref b] s) (F0 m 924 ls []) := by
  obtain ⟨hx, hb, hr, hml, hown, hts0, hX, hbl, hlocks, hgv⟩ := C0
  have hts : ∀ w ∈ wsL_law, w.before #[Value.ref b] s = true := fun w h => hts0 w (wsL_law_in w h)
  have hbA : ¬ (fun q : Nat => s.heap.size ≤ q) b := Nat.not_le.mpr hbl
  refine lv_aload_n hx hb dL_law_924 rfl (lv_at hl 1 rfl) ?_
  refine zc_i (zc_runV (sh := shX) (N := 67) (ad := adX) (rs := wW shM 18 cc adM M0) (As := []) (rest := []) ⟨hx, hb, hml, hown, hts⟩ (c_X5_clearWord l D cc (fun q : Nat => s.heap.size ≤ q) adX (wW shM 18 cc adM M0)  X0 _ h) (cwV 0 hts gL_law_X5_clearWord rfl rfl rfl (by decide +kernel) ⟨Nat.le_of_ble_eq_true rfl, Nat.le_of_ble_eq_true rfl⟩) kX_0 rfl hK hN hP hD rfl hl.1 rfl (Nat.le_of_ble_eq_true rfl) dL_law_925 hc) hS (fun r1 X1 H locs h hP hD hS => ?_)
  refine lv_aload_n hx hb dL_law_928 rfl (lv_at hl 2 rfl) ?_
  have hP := va_P.swap (a := []) hP
  have hD := va_D.swap (a := []) hD
  refine zc_i (zc_runV (sh := shM) (N := 18) (ad := adM) (rs := wW shX 67 cc adX X1) (As := []) (rest := [.int r1]) ⟨hx, hb, hml, hown, hts⟩ (c_X6_clearWord l D cc (fun q : Nat => s.heap.size ≤ q) adM (wW shX 67 cc adX X1)  M0 _ h) (cwV 0 hts gL_law_X6_clearWord rfl rfl rfl (by decide +kernel) ⟨Nat.le_of_ble_eq_true rfl, Nat.le_of_ble_eq_true rfl⟩) kM_0 rfl hK hN hP hD rfl hl.1 rfl (Nat.le_of_ble_eq_true rfl) dL_law_929 hc) hS (fun r2 M1 H locs h hP hD hS => ?_)
  have hP := va_P.swap (a := []) hP
  have hD := va_D.swap (a := []) hD
  refine lv_icmp_eq (tgt := 1053) hx hb dL_law_932 (by decide) (fun c9 => ?_) (fun c9 => ?_)
  · exact kk X1 M1 H locs ls h.2 hP hD hS hl
  · exact absurd h.1 c9
set_option maxHeartbeats 4000000 in
set_option maxRecDepth 100000 in
theorem law_answer {p : Program} {l : Launch} {e : Env} {s : State} {m : MethodId} {below : List Frame} {meth : Method} {c : Code} {D : va_G} {cc : Nat → ClassId} {adX adM : Nat → Nat} {b L : Nat} {xs : Nat → Int32} {nc ns : Nat} {R : Mem → Mem → Prop} (C0 : lw_At p s m meth c b L xs) (hK : va_K D vwCl (tyL cc) s) (hN : NW s) (hc : nc ≤ room_1.cells ∧ ns ≤ room_1.slots) {X0 M0 : Mem} {x3 : Int32} (h1 : vp_in (x3 + 1) L) (h2 : vp_in (x3 + 2) L) (h : f_X5_answer (xs (x3 + 1).toNatClampNeg) (xs (x3 + 2).toNatClampNeg) X0 (fun r1 X1 => f_X6_answer (xs (x3 + 1).toNatClampNeg) (xs (x3 + 2).toNatClampNeg) M0 (fun r2 M1 => r1 = r2 ∧ R X1 M1))) {H : Heap} {locs : List Loc} {ls : Array Slot} (hP : va_P D vwCl (wW shX 67 cc adX X0 ++ wW shM 18 cc adM M0) H) (hD : va_D (fun q : Nat => s.heap.size ≤ q) (wW shX 67 cc adX X0 ++ wW shM 18 cc adM M0)) (hS : va_S (fun q : Nat => s.heap.size ≤ q) s.heap H locs) (hl : lv_has ls 4 [(0, .ref b), (1, .ref (adX 0)), (2, .ref (adM 0)), (3, .int x3)])
    (kk : ∀ (X1 M1 : Mem) (H : Heap) (locs : List Loc) (ls : Array Slot), R X1 M1 → va_P D vwCl (wW shX 67 cc adX X1 ++ wW shM 18 cc adM M1) H → va_D (fun q : Nat => s.heap.size ≤ q) (wW shX 67 cc adX X1 ++ wW shM 18 cc adM M1) → va_S (fun q : Nat => s.heap.size ≤ q) s.heap H locs → lv_has ls 4 [(0, .ref b), (1, .ref (adX 0)), (2, .ref (adM 0)), (3, .int x3)] → W p l e room_1 s m #[Value.ref b] below meth c H locs nc ns (lw_Z below #[Value.ref b] s) (F0 m 1053 ls [])) : W p l e room_1 s m #[Value.ref b] below meth c H locs nc ns (lw_Z below #[Value.ref b] s) (F0 m 937 ls []) := by
  obtain ⟨hx, hb, hr, hml, hown, hts0, hX, hbl, hlocks, hgv⟩ := C0
  have hts : ∀ w ∈ wsL_law, w.before #[Value.ref b] s = true := fun w h => hts0 w (wsL_law_in w h)
  have hbA : ¬ (fun q : Nat => s.heap.size ≤ q) b := Nat.not_le.mpr hbl
  refine lv_aload_n hx hb dL_law_937 rfl (lv_at hl 1 rfl) ?_
  refine lv_aload_n hx hb dL_law_938 rfl (lv_at hl 0 rfl) ?_
  refine lv_iload_n hx hb dL_law_939 rfl (lv_at hl 3 rfl) ?_
  refine lv_iconst (v := 1) hx hb dL_law_940 (by decide) ?_
  refine lv_iadd hx hb dL_law_941 ?_
  refine va_sld hx hb hX hbl hbA hS h1 dL_law_942 ?_
  refine lv_aload_n hx hb dL_law_943 rfl (lv_at hl 0 rfl) ?_
  refine lv_iload_n hx hb dL_law_944 rfl (lv_at hl 3 rfl) ?_
  refine lv_iconst (v := 2) hx hb dL_law_945 (by decide) ?_
  refine lv_iadd hx hb dL_law_946 ?_
  refine va_sld hx hb hX hbl hbA hS h2 dL_law_947 ?_
  refine zc_i (zc_runV (sh := shX) (N := 67) (ad := adX) (rs := wW shM 18 cc adM M0) (As := [.int (xs (x3 + 1).toNatClampNeg), .int (xs (x3 + 2).toNatClampNeg)]) (rest := []) ⟨hx, hb, hml, hown, hts⟩ (c_X5_answer l D cc (fun q : Nat => s.heap.size ≤ q) adX (wW shM 18 cc adM M0) (xs (x3 + 1).toNatClampNeg) (xs (x3 + 2).toNatClampNeg) X0 _ h) (cwV 2 hts gL_law_X5_answer rfl rfl rfl (by decide +kernel) ⟨Nat.le_of_ble_eq_true rfl, Nat.le_of_ble_eq_true rfl⟩) kX_0 rfl hK hN hP hD rfl hl.1 rfl (Nat.le_of_ble_eq_true rfl) dL_law_948 hc) hS (fun r1 X1 H locs h hP hD hS => ?_)
  refine lv_aload_n hx hb dL_law_951 rfl (lv_at hl 2 rfl) ?_
  refine lv_aload_n hx hb dL_law_952 rfl (lv_at hl 0 rfl) ?_
  refine lv_iload_n hx hb dL_law_953 rfl (lv_at hl 3 rfl) ?_
  refine lv_iconst (v := 1) hx hb dL_law_954 (by decide) ?_
  refine lv_iadd hx hb dL_law_955 ?_
  refine va_sld hx hb hX hbl hbA hS h1 dL_law_956 ?_
  refine lv_aload_n hx hb dL_law_957 rfl (lv_at hl 0 rfl) ?_
  refine lv_iload_n hx hb dL_law_958 rfl (lv_at hl 3 rfl) ?_
  refine lv_iconst (v := 2) hx hb dL_law_959 (by decide) ?_
  refine lv_iadd hx hb dL_law_960 ?_
  refine va_sld hx hb hX hbl hbA hS h2 dL_law_961 ?_
  have hP := va_P.swap (a := []) hP
  have hD := va_D.swap (a := []) hD
  refine zc_i (zc_runV (sh := shM) (N := 18) (ad := adM) (rs := wW shX 67 cc adX X1) (As := [.int (xs (x3 + 1).toNatClampNeg), .int (xs (x3 + 2).toNatClampNeg)]) (rest := [.int r1]) ⟨hx, hb, hml, hown, hts⟩ (c_X6_answer l D cc (fun q : Nat => s.heap.size ≤ q) adM (wW shX 67 cc adX X1) (xs (x3 + 1).toNatClampNeg) (xs (x3 + 2).toNatClampNeg) M0 _ h) (cwV 2 hts gL_law_X6_answer rfl rfl rfl (by decide +kernel) ⟨Nat.le_of_ble_eq_true rfl, Nat.le_of_ble_eq_true rfl⟩) kM_0 rfl hK hN hP hD rfl hl.1 rfl (Nat.le_of_ble_eq_true rfl) dL_law_962 hc) hS (fun r2 M1 H locs h hP hD hS => ?_)
  have hP := va_P.swap (a := []) hP
  have hD := va_D.swap (a := []) hD
  refine lv_icmp_eq (tgt := 1053) hx hb dL_law_965 (by decide) (fun c9 => ?_) (fun c9 => ?_)
  · exact kk X1 M1 H locs ls h.2 hP hD hS hl
  · exact absurd h.1 c9
set_option maxHeartbeats 4000000 in
set_option maxRecDepth 100000 in
theorem law_effect {p : Program} {l : Launch} {e : Env} {s : State} {m : MethodId} {below : List Frame} {meth : Method} {c : Code} {D : va_G} {cc : Nat → ClassId} {adX adM : Nat → Nat} {b L : Nat} {xs : Nat → Int32} {nc ns : Nat} {R : Mem → Mem → Prop} (C0 : lw_At p s m meth c b L xs) (hK : va_K D vwCl (tyL cc) s) (hN : NW s) (hc : nc ≤ room_1.cells ∧ ns ≤ room_1.slots) {X0 M0 : Mem} {x3 : Int32} (h1 : vp_in (x3 + 1) L) (h : f_X5_effect (xs (x3 + 1).toNatClampNeg) X0 (fun r1 X1 => f_X6_effect (xs (x3 + 1).toNatClampNeg) M0 (fun r2 M1 => r1 = r2 ∧ R X1 M1))) {H : Heap} {locs : List Loc} {ls : Array Slot} (hP : va_P D vwCl (wW shX 67 cc adX X0 ++ wW shM 18 cc adM M0) H) (hD : va_D (fun q : Nat => s.heap.size ≤ q) (wW shX 67 cc adX X0 ++ wW shM 18 cc adM M0)) (hS : va_S (fun q : Nat => s.heap.size ≤ q) s.heap H locs) (hl : lv_has ls 4 [(0, .ref b), (1, .ref (adX 0)), (2, .ref (adM 0)), (3, .int x3)])
    (kk : ∀ (X1 M1 : Mem) (H : Heap) (locs : List Loc) (ls : Array Slot), R X1 M1 → va_P D vwCl (wW shX 67 cc adX X1 ++ wW shM 18 cc adM M1) H → va_D (fun q : Nat => s.heap.size ≤ q) (wW shX 67 cc adX X1 ++ wW shM 18 cc adM M1) → va_S (fun q : Nat => s.heap.size ≤ q) s.heap H locs → lv_has ls 4 [(0, .ref b), (1, .ref (adX 0)), (2, .ref (adM 0)), (3, .int x3)] → W p l e room_1 s m #[Value.ref b] below meth c H locs nc ns (lw_Z below #[Value.ref b] s) (F0 m 1053 ls [])) : W p l e room_1 s m #[Value.ref b] below meth c H locs nc ns (lw_Z below #[Value.ref b] s) (F0 m 970 ls []) := by
  obtain ⟨hx, hb, hr, hml, hown, hts0, hX, hbl, hlocks, hgv⟩ := C0
  have hts : ∀ w ∈ wsL_law, w.before #[Value.ref b] s = true := fun w h => hts0 w (wsL_law_in w h)
  have hbA : ¬ (fun q : Nat => s.heap.size ≤ q) b := Nat.not_le.mpr hbl
  refine lv_aload_n hx hb dL_law_970 rfl (lv_at hl 1 rfl) ?_
  refine lv_aload_n hx hb dL_law_971 rfl (lv_at hl 0 rfl) ?_
  refine lv_iload_n hx hb dL_law_972 rfl (lv_at hl 3 rfl) ?_
  refine lv_iconst (v := 1) hx hb dL_law_973 (by decide) ?_
  refine lv_iadd hx hb dL_law_974 ?_
  refine va_sld hx hb hX hbl hbA hS h1 dL_law_975 ?_
  refine zc_i (zc_runV (sh := shX) (N := 67) (ad := adX) (rs := wW shM 18 cc adM M0) (As := [.int (xs (x3 + 1).toNatClampNeg)]) (rest := []) ⟨hx, hb, hml, hown, hts⟩ (c_X5_effect l D cc (fun q : Nat => s.heap.size ≤ q) adX (wW shM 18 cc adM M0) (xs (x3 + 1).toNatClampNeg) X0 _ h) (cwV 1 hts gL_law_X5_effect rfl rfl rfl (by decide +kernel) ⟨Nat.le_of_ble_eq_true rfl, Nat.le_of_ble_eq_true rfl⟩) kX_0 rfl hK hN hP hD rfl hl.1 rfl (Nat.le_of_ble_eq_true rfl) dL_law_976 hc) hS (fun r1 X1 H locs h hP hD hS => ?_)
  refine lv_aload_n hx hb dL_law_979 rfl (lv_at hl 2 rfl) ?_
  refine lv_aload_n hx hb dL_law_980 rfl (lv_at hl 0 rfl) ?_
  refine lv_iload_n hx hb dL_law_981 rfl (lv_at hl 3 rfl) ?_
  refine lv_iconst (v := 1) hx hb dL_law_982 (by decide) ?_
  refine lv_iadd hx hb dL_law_983 ?_
  refine va_sld hx hb hX hbl hbA hS h1 dL_law_984 ?_
  have hP := va_P.swap (a := []) hP
  have hD := va_D.swap (a := []) hD
  refine zc_i (zc_runV (sh := shM) (N := 18) (ad := adM) (rs := wW shX 67 cc adX X1) (As := [.int (xs (x3 + 1).toNatClampNeg)]) (rest := [.int r1]) ⟨hx, hb, hml, hown, hts⟩ (c_X6_effect l D cc (fun q : Nat => s.heap.size ≤ q) adM (wW shX 67 cc adX X1) (xs (x3 + 1).toNatClampNeg) M0 _ h) (cwV 1 hts gL_law_X6_effect rfl rfl rfl (by decide +kernel) ⟨Nat.le_of_ble_eq_true rfl, Nat.le_of_ble_eq_true rfl⟩) kM_0 rfl hK hN hP hD rfl hl.1 rfl (Nat.le_of_ble_eq_true rfl) dL_law_985 hc) hS (fun r2 M1 H locs h hP hD hS => ?_)
  have hP := va_P.swap (a := []) hP
  have hD := va_D.swap (a := []) hD
  refine lv_icmp_eq (tgt := 1053) hx hb dL_law_988 (by decide) (fun c9 => ?_) (fun c9 => ?_)
  · exact kk X1 M1 H locs ls h.2 hP hD hS hl
  · exact absurd h.1 c9
set_option maxHeartbeats 4000000 in
set_option maxRecDepth 100000 in
theorem law_save {p : Program} {l : Launch} {e : Env} {s : State} {m : MethodId} {below : List Frame} {meth : Method} {c : Code} {D : va_G} {cc : Nat → ClassId} {adX adM : Nat → Nat} {b L : Nat} {xs : Nat → Int32} {nc ns : Nat} {R : Mem → Mem → Prop} (C0 : lw_At p s m meth c b L xs) (hK : va_K D vwCl (tyL cc) s) (hN : NW s) (hc : nc ≤ room_1.cells ∧ ns ≤ room_1.slots) {X0 M0 : Mem} {x3 : Int32} (h1 : vp_in (x3 + 1) L) (h : f_X5_save (xs (x3 + 1).toNatClampNeg) X0 (fun r1 X1 => f_X6_save (xs (x3 + 1).toNatClampNeg) M0 (fun r2 M1 => r1 = r2 ∧ R X1 M1))) {H : Heap} {locs : List Loc} {ls : Array Slot} (hP : va_P D vwCl (wW shX 67 cc adX X0 ++ wW shM 18 cc adM M0) H) (hD : va_D (fun q : Nat => s.heap.size ≤ q) (wW shX 67 cc adX X0 ++ wW shM 18 cc adM M0)) (hS : va_S (fun q : Nat => s.heap.size ≤ q) s.heap H locs) (hl : lv_has ls 4 [(0, .ref b), (1, .ref (adX 0)), (2, .ref (adM 0)), (3, .int x3)])
    (kk : ∀ (X1 M1 : Mem) (H : Heap) (locs : List Loc) (ls : Array Slot), R X1 M1 → va_P D vwCl (wW shX 67 cc adX X1 ++ wW shM 18 cc adM M1) H → va_D (fun q : Nat => s.heap.size ≤ q) (wW shX 67 cc adX X1 ++ wW shM 18 cc adM M1) → va_S (fun q : Nat => s.heap.size ≤ q) s.heap H locs → lv_has ls 4 [(0, .ref b), (1, .ref (adX 0)), (2, .ref (adM 0)), (3, .int x3)] → W p l e room_1 s m #[Value.ref b] below meth c H locs nc ns (lw_Z below #[Value.ref b] s) (F0 m 1053 ls [])) : W p l e room_1 s m #[Value.ref b] below meth c H locs nc ns (lw_Z below #[Value.ref b] s) (F0 m 993 ls []) := by
  obtain ⟨hx, hb, hr, hml, hown, hts0, hX, hbl, hlocks, hgv⟩ := C0
  have hts : ∀ w ∈ wsL_law, w.before #[Value.ref b] s = true := fun w h => hts0 w (wsL_law_in w h)
  have hbA : ¬ (fun q : Nat => s.heap.size ≤ q) b := Nat.not_le.mpr hbl
  refine lv_aload_n hx hb dL_law_993 rfl (lv_at hl 1 rfl) ?_
  refine lv_aload_n hx hb dL_law_994 rfl (lv_at hl 0 rfl) ?_
  refine lv_iload_n hx hb dL_law_995 rfl (lv_at hl 3 rfl) ?_
  refine lv_iconst (v := 1) hx hb dL_law_996 (by decide) ?_
  refine lv_iadd hx hb dL_law_997 ?_
  refine va_sld hx hb hX hbl hbA hS h1 dL_law_998 ?_
  refine zc_i (zc_runV (sh := shX) (N := 67) (ad := adX) (rs := wW shM 18 cc adM M0) (As := [.int (xs (x3 + 1).toNatClampNeg)]) (rest := []) ⟨hx, hb, hml, hown, hts⟩ (c_X5_save l D cc (fun q : Nat => s.heap.size ≤ q) adX (wW shM 18 cc adM M0) (xs (x3 + 1).toNatClampNeg) X0 _ h) (cwV 1 hts gL_law_X5_save rfl rfl rfl (by decide +kernel) ⟨Nat.le_of_ble_eq_true rfl, Nat.le_of_ble_eq_true rfl⟩) kX_0 rfl hK hN hP hD rfl hl.1 rfl (Nat.le_of_ble_eq_true rfl) dL_law_999 hc) hS (fun r1 X1 H locs h hP hD hS => ?_)
  refine lv_aload_n hx hb dL_law_1002 rfl (lv_at hl 2 rfl) ?_
  refine lv_aload_n hx hb dL_law_1003 rfl (lv_at hl 0 rfl) ?_
  refine lv_iload_n hx hb dL_law_1004 rfl (lv_at hl 3 rfl) ?_
  refine lv_iconst (v := 1) hx hb dL_law_1005 (by decide) ?_
  refine lv_iadd hx hb dL_law_1006 ?_
  refine va_sld hx hb hX hbl hbA hS h1 dL_law_1007 ?_
  have hP := va_P.swap (a := []) hP
  have hD := va_D.swap (a := []) hD
  refine zc_i (zc_runV (sh := shM) (N := 18) (ad := adM) (rs := wW shX 67 cc adX X1) (As := [.int (xs (x3 + 1).toNatClampNeg)]) (rest := [.int r1]) ⟨hx, hb, hml, hown, hts⟩ (c_X6_save l D cc (fun q : Nat => s.heap.size ≤ q) adM (wW shX 67 cc adX X1) (xs (x3 + 1).toNatClampNeg) M0 _ h) (cwV 1 hts gL_law_X6_save rfl rfl rfl (by decide +kernel) ⟨Nat.le_of_ble_eq_true rfl, Nat.le_of_ble_eq_true rfl⟩) kM_0 rfl hK hN hP hD rfl hl.1 rfl (Nat.le_of_ble_eq_true rfl) dL_law_1008 hc) hS (fun r2 M1 H locs h hP hD hS => ?_)
  have hP := va_P.swap (a := []) hP
  have hD := va_D.swap (a := []) hD
  refine lv_icmp_eq (tgt := 1053) hx hb dL_law_1011 (by decide) (fun c9 => ?_) (fun c9 => ?_)
  · exact kk X1 M1 H locs ls h.2 hP hD hS hl
  · exact absurd h.1 c9
set_option maxHeartbeats 4000000 in
set_option maxRecDepth 100000 in
theorem law_restore {p : Program} {l : Launch} {e : Env} {s : State} {m : MethodId} {below : List Frame} {meth : Method} {c : Code} {D : va_G} {cc : Nat → ClassId} {adX adM : Nat → Nat} {b L : Nat} {xs : Nat → Int32} {nc ns : Nat} {R : Mem → Mem → Prop} (C0 : lw_At p s m meth c b L xs) (hK : va_K D vwCl (tyL cc) s) (hN : NW s) (hc : nc ≤ room_1.cells ∧ ns ≤ room_1.slots) {X0 M0 : Mem} {x3 : Int32} (h1 : vp_in (x3 + 1) L) (h : f_X5_restore (xs (x3 + 1).toNatClampNeg) X0 (fun r1 X1 => f_X6_restore (xs (x3 + 1).toNatClampNeg) M0 (fun r2 M1 => r1 = r2 ∧ R X1 M1))) {H : Heap} {locs : List Loc} {ls : Array Slot} (hP : va_P D vwCl (wW shX 67 cc adX X0 ++ wW shM 18 cc adM M0) H) (hD : va_D (fun q : Nat => s.heap.size ≤ q) (wW shX 67 cc adX X0 ++ wW shM 18 cc adM M0)) (hS : va_S (fun q : Nat => s.heap.size ≤ q) s.heap H locs) (hl : lv_has ls 4 [(0, .ref b), (1, .ref (adX 0)), (2, .ref (adM 0)), (3, .int x3)])
    (kk : ∀ (X1 M1 : Mem) (H : Heap) (locs : List Loc) (ls : Array Slot), R X1 M1 → va_P D vwCl (wW shX 67 cc adX X1 ++ wW shM 18 cc adM M1) H → va_D (fun q : Nat => s.heap.size ≤ q) (wW shX 67 cc adX X1 ++ wW shM 18 cc adM M1) → va_S (fun q : Nat => s.heap.size ≤ q) s.heap H locs → lv_has ls 4 [(0, .ref b), (1, .ref (adX 0)), (2, .ref (adM 0)), (3, .int x3)] → W p l e room_1 s m #[Value.ref b] below meth c H locs nc ns (lw_Z below #[Value.ref b] s) (F0 m 1053 ls [])) : W p l e room_1 s m #[Value.ref b] below meth c H locs nc ns (lw_Z below #[Value.ref b] s) (F0 m 1016 ls []) := by
  obtain ⟨hx, hb, hr, hml, hown, hts0, hX, hbl, hlocks, hgv⟩ := C0
  have hts : ∀ w ∈ wsL_law, w.before #[Value.ref b] s = true := fun w h => hts0 w (wsL_law_in w h)
  have hbA : ¬ (fun q : Nat => s.heap.size ≤ q) b := Nat.not_le.mpr hbl
  refine lv_aload_n hx hb dL_law_1016 rfl (lv_at hl 1 rfl) ?_
  refine lv_aload_n hx hb dL_law_1017 rfl (lv_at hl 0 rfl) ?_
  refine lv_iload_n hx hb dL_law_1018 rfl (lv_at hl 3 rfl) ?_
  refine lv_iconst (v := 1) hx hb dL_law_1019 (by decide) ?_
  refine lv_iadd hx hb dL_law_1020 ?_
  refine va_sld hx hb hX hbl hbA hS h1 dL_law_1021 ?_
  refine zc_i (zc_runV (sh := shX) (N := 67) (ad := adX) (rs := wW shM 18 cc adM M0) (As := [.int (xs (x3 + 1).toNatClampNeg)]) (rest := []) ⟨hx, hb, hml, hown, hts⟩ (c_X5_restore l D cc (fun q : Nat => s.heap.size ≤ q) adX (wW shM 18 cc adM M0) (xs (x3 + 1).toNatClampNeg) X0 _ h) (cwV 1 hts gL_law_X5_restore rfl rfl rfl (by decide +kernel) ⟨Nat.le_of_ble_eq_true rfl, Nat.le_of_ble_eq_true rfl⟩) kX_0 rfl hK hN hP hD rfl hl.1 rfl (Nat.le_of_ble_eq_true rfl) dL_law_1022 hc) hS (fun r1 X1 H locs h hP hD hS => ?_)
  refine lv_aload_n hx hb dL_law_1025 rfl (lv_at hl 2 rfl) ?_
  refine lv_aload_n hx hb dL_law_1026 rfl (lv_at hl 0 rfl) ?_
  refine lv_iload_n hx hb dL_law_1027 rfl (lv_at hl 3 rfl) ?_
  refine lv_iconst (v := 1) hx hb dL_law_1028 (by decide) ?_
  refine lv_iadd hx hb dL_law_1029 ?_
  refine va_sld hx hb hX hbl hbA hS h1 dL_law_1030 ?_
  have hP := va_P.swap (a := []) hP
  have hD := va_D.swap (a := []) hD
  refine zc_i (zc_runV (sh := shM) (N := 18) (ad := adM) (rs := wW shX 67 cc adX X1) (As := [.int (xs (x3 + 1).toNatClampNeg)]) (rest := [.int r1]) ⟨hx, hb, hml, hown, hts⟩ (c_X6_restore l D cc (fun q : Nat => s.heap.size ≤ q) adM (wW shX 67 cc adX X1) (xs (x3 + 1).toNatClampNeg) M0 _ h) (cwV 1 hts gL_law_X6_restore rfl rfl rfl (by decide +kernel) ⟨Nat.le_of_ble_eq_true rfl, Nat.le_of_ble_eq_true rfl⟩) kM_0 rfl hK hN hP hD rfl hl.1 rfl (Nat.le_of_ble_eq_true rfl) dL_law_1031 hc) hS (fun r2 M1 H locs h hP hD hS => ?_)
  have hP := va_P.swap (a := []) hP
  have hD := va_D.swap (a := []) hD
  refine lv_icmp_eq (tgt := 1053) hx hb dL_law_1034 (by decide) (fun c9 => ?_) (fun c9 => ?_)
  · exact kk X1 M1 H locs ls h.2 hP hD hS hl
  · exact absurd h.1 c9
set_option maxHeartbeats 4000000 in
set_option maxRecDepth 100000 in
theorem law_checksum {p : Program} {l : Launch} {e : Env} {s : State} {m : MethodId} {below : List Frame} {meth : Method} {c : Code} {D : va_G} {cc : Nat → ClassId} {adX adM : Nat → Nat} {b L : Nat} {xs : Nat → Int32} {nc ns : Nat} {R : Mem → Mem → Prop} (C0 : lw_At p s m meth c b L xs) (hK : va_K D vwCl (tyL cc) s) (hN : NW s) (hc : nc ≤ room_1.cells ∧ ns ≤ room_1.slots) {X0 M0 : Mem} {x3 : Int32}  (h : f_X5_checksum  X0 (fun r1 X1 => f_X6_checksum  M0 (fun r2 M1 => r1 = r2 ∧ R X1 M1))) {H : Heap} {locs : List Loc} {ls : Array Slot} (hP : va_P D vwCl (wW shX 67 cc adX X0 ++ wW shM 18 cc adM M0) H) (hD : va_D (fun q : Nat => s.heap.size ≤ q) (wW shX 67 cc adX X0 ++ wW shM 18 cc adM M0)) (hS : va_S (fun q : Nat => s.heap.size ≤ q) s.heap H locs) (hl : lv_has ls 4 [(0, .ref b), (1, .ref (adX 0)), (2, .ref (adM 0)), (3, .int x3)])
    (kk : ∀ (X1 M1 : Mem) (H : Heap) (locs : List Loc) (ls : Array Slot), R X1 M1 → va_P D vwCl (wW shX 67 cc adX X1 ++ wW shM 18 cc adM M1) H → va_D (fun q : Nat => s.heap.size ≤ q) (wW shX 67 cc adX X1 ++ wW shM 18 cc adM M1) → va_S (fun q : Nat => s.heap.size ≤ q) s.heap H locs → lv_has ls 4 [(0, .ref b), (1, .ref (adX 0)), (2, .ref (adM 0)), (3, .int x3)] → W p l e room_1 s m #[Value.ref b] below meth c H locs nc ns (lw_Z below #[Value.ref b] s) (F0 m 1053 ls [])) : W p l e room_1 s m #[Value.ref b] below meth c H locs nc ns (lw_Z below #[Value.ref b] s) (F0 m 1039 ls []) := by
  obtain ⟨hx, hb, hr, hml, hown, hts0, hX, hbl, hlocks, hgv⟩ := C0
  have hts : ∀ w ∈ wsL_law, w.before #[Value.ref b] s = true := fun w h => hts0 w (wsL_law_in w h)
  have hbA : ¬ (fun q : Nat => s.heap.size ≤ q) b := Nat.not_le.mpr hbl
  refine lv_aload_n hx hb dL_law_1039 rfl (lv_at hl 1 rfl) ?_
  refine zc_l (zc_runV (sh := shX) (N := 67) (ad := adX) (rs := wW shM 18 cc adM M0) (As := []) (rest := []) ⟨hx, hb, hml, hown, hts⟩ (c_X5_checksum l D cc (fun q : Nat => s.heap.size ≤ q) adX (wW shM 18 cc adM M0)  X0 _ h) (cwV 0 hts gL_law_X5_checksum rfl rfl rfl (by decide +kernel) ⟨Nat.le_of_ble_eq_true rfl, Nat.le_of_ble_eq_true rfl⟩) kX_0 rfl hK hN hP hD rfl hl.1 rfl (Nat.le_of_ble_eq_true rfl) dL_law_1040 hc) hS (fun r1 X1 H locs h hP hD hS => ?_)
  refine lv_aload_n hx hb dL_law_1043 rfl (lv_at hl 2 rfl) ?_
  have hP := va_P.swap (a := []) hP
  have hD := va_D.swap (a := []) hD
  refine zc_l (zc_runV (sh := shM) (N := 18) (ad := adM) (rs := wW shX 67 cc adX X1) (As := []) (rest := [.long r1]) ⟨hx, hb, hml, hown, hts⟩ (c_X6_checksum l D cc (fun q : Nat => s.heap.size ≤ q) adM (wW shX 67 cc adX X1)  M0 _ h) (cwV 0 hts gL_law_X6_checksum rfl rfl rfl (by decide +kernel) ⟨Nat.le_of_ble_eq_true rfl, Nat.le_of_ble_eq_true rfl⟩) kM_0 rfl hK hN hP hD rfl hl.1 rfl (Nat.le_of_ble_eq_true rfl) dL_law_1044 hc) hS (fun r2 M1 H locs h hP hD hS => ?_)
  have hP := va_P.swap (a := []) hP
  have hD := va_D.swap (a := []) hD
  refine W.lcmp hx hb dL_law_1047 ?_
  refine lv_if_eq (tgt := 1053) hx hb dL_law_1048 (by decide) (fun c9 => ?_) (fun c9 => ?_)
  · exact kk X1 M1 H locs ls h.2 hP hD hS hl
  · exact absurd (by rw [h.1]; simp [lg_cmp]) c9
