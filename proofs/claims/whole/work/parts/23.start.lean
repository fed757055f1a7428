set_option maxHeartbeats 4000000 in
set_option maxRecDepth 100000 in
theorem ls_NW {s : State} {b : Nat} (hts : ∀ w ∈ lw_tbl, w.before #[Value.ref b] s = true) : NW s := by
  intro k q hq
  match k, hq with
  | 0, hq => cases hq; exact va_Nw.of rfl (hts (.methodLinkNest "FeatureClashes$Text" 75 yX5_arrowOf "FeatureClashes") (List.mem_of_getElem? (i := 448) (by decide +kernel)))
  | 1, hq => cases hq; exact va_Nw.of rfl (hts (.methodLinkNest "FeatureClashes$Text" 72 yX5_isOutput "FeatureClashes") (List.mem_of_getElem? (i := 447) (by decide +kernel)))
  | 2, hq => cases hq; exact va_Nw.of rfl (hts (.methodLinkNest "FeatureClashes$Text" 68 yX5_cellOf "FeatureClashes") (List.mem_of_getElem? (i := 434) (by decide +kernel)))
  | 3, hq => cases hq; exact va_Nw.of rfl (hts (.methodLinkNest "FeatureClashes$Shape" 66 yX5_arrowOf "FeatureClashes") (List.mem_of_getElem? (i := 546) (by decide +kernel)))
  | 4, hq => cases hq; exact va_Nw.of rfl (hts (.methodLinkNest "FeatureClashes$Shape" 63 yX5_outputOf "FeatureClashes") (List.mem_of_getElem? (i := 545) (by decide +kernel)))
  | 5, hq => cases hq; exact va_Nw.of rfl (hts (.methodLinkNest "FeatureClashes$Shape" 60 yX5_targetOf "FeatureClashes") (List.mem_of_getElem? (i := 544) (by decide +kernel)))
  | 6, hq => cases hq; exact va_Nw.of rfl (hts (.methodLinkNest "FeatureClashes$Shape" 56 yX5_cellOf "FeatureClashes") (List.mem_of_getElem? (i := 543) (by decide +kernel)))
  | 7, hq => cases hq; exact va_Nw.of rfl (hts (.methodLinkNest "FeatureClashes$Setup" 57 yX5_hasBit "FeatureClashes") (List.mem_of_getElem? (i := 393) (by decide +kernel)))
  | 8, hq => cases hq; exact va_Nw.of rfl (hts (.methodLinkNest "FeatureClashes$Setup" 42 yX5_copyRow "FeatureClashes") (List.mem_of_getElem? (i := 704) (by decide +kernel)))
  | 9, hq => cases hq; exact va_Nw.of rfl (hts (.methodLinkNest "FeatureClashes$Outcomes" 98 yX5_putOn "FeatureClashes") (List.mem_of_getElem? (i := 580) (by decide +kernel)))
  | 10, hq => cases hq; exact va_Nw.of rfl (hts (.methodLinkNest "FeatureClashes$Outcomes" 91 yX5_hasBit "FeatureClashes") (List.mem_of_getElem? (i := 575) (by decide +kernel)))
  | 11, hq => cases hq; exact va_Nw.of rfl (hts (.methodLinkNest "FeatureClashes$Outcomes" 57 yX5_copyRow "FeatureClashes") (List.mem_of_getElem? (i := 526) (by decide +kernel)))
  | 12, hq => cases hq; exact va_Nw.of rfl (hts (.methodLinkNest "FeatureClashes$Difference" 61 yX5_outputOf "FeatureClashes") (List.mem_of_getElem? (i := 486) (by decide +kernel)))
  | 13, hq => cases hq; exact va_Nw.of rfl (hts (.methodLinkNest "FeatureClashes$Difference" 57 yX5_targetOf "FeatureClashes") (List.mem_of_getElem? (i := 493) (by decide +kernel)))
  | 14, hq => cases hq; exact va_Nw.of rfl (hts (.methodLinkNest "FeatureClashes$Difference" 45 yX5_cellOf "FeatureClashes") (List.mem_of_getElem? (i := 482) (by decide +kernel)))
  | k + 15, hq => exact absurd hq (by simp [nwQ])
set_option maxHeartbeats 4000000 in
set_option maxRecDepth 100000 in
theorem ls_NC {s : State} {b : Nat} (hts : ∀ w ∈ lw_tbl, w.before #[Value.ref b] s = true) : NC s := by
  refine ⟨?_, va_AOA.of (hts (.arrayOver (.array .int)) (List.mem_of_getElem? (i := 99) (by decide +kernel))), va_AO.of (hts (.arrayOver (.object "FeatureClashes$Setup")) (List.mem_of_getElem? (i := 140) (by decide +kernel))), ls_NW hts⟩
  intro k q hq
  match k, hq with
  | 0, hq => cases hq; exact va_Nw.of rfl (hts (.methodLinkNest "FeatureClashes" 26 yX4_init "FeatureClashes") (List.mem_of_getElem? (i := 143) (by decide +kernel)))
  | 1, hq => cases hq; exact va_Nw.of rfl (hts (.methodLinkNest "FeatureClashes" 53 yX0_init "FeatureClashes") (List.mem_of_getElem? (i := 185) (by decide +kernel)))
  | 2, hq => cases hq; exact va_Nw.of rfl (hts (.methodLinkNest "FeatureClashes" 60 yX1_init "FeatureClashes") (List.mem_of_getElem? (i := 220) (by decide +kernel)))
  | 3, hq => cases hq; exact va_Nw.of rfl (hts (.methodLinkNest "FeatureClashes$Outcomes" 11 yX3_init "FeatureClashes") (List.mem_of_getElem? (i := 226) (by decide +kernel)))
  | k + 4, hq => exact absurd hq (by simp [ncQ])
theorem ls_prim {s : State} {B : Array Value} {t : FieldType} (h : (Cond.arrayClass t).before B s = true) (ho : ∀ C, t ≠ .object C) : ∃ c : ClassId, ArrOfT s c t ∧ va_RA s c t := by
  obtain ⟨c, k, comp, h1, h2, h3⟩ := Cond.arrayClass_spec h
  refine ⟨c, fun N z => ⟨(fun q hq => by cases hq), k, h2, comp, h3⟩, ?_⟩
  cases t <;> first | exact h1 | exact absurd rfl (ho _)
theorem ls_obj {s : State} {B : Array Value} {C : String} (h : (Cond.arrayOver (.object C)).before B s = true) : ∃ c : ClassId, ArrOfT s c (.object C) ∧ va_RA s c (.object C) := by
  obtain ⟨comp, c, k, h1, h2, h3, h4, h5⟩ := Cond.arrayOver_spec h
  exact ⟨c, fun N z => ⟨(fun q hq => by cases hq), k, h3, comp, h4⟩, k, comp, h3, h4, h1, h5⟩
theorem ls_arr {s : State} {B : Array Value} {t : FieldType} (h : (Cond.arrayOver (.array t)).before B s = true) : ∃ c : ClassId, ArrOfT s c (.array t) ∧ va_RA s c (.array t) := by
  obtain ⟨comp, c, k, h1, h2, h3, h4, h5⟩ := arrayOverA_spec h
  exact ⟨c, fun N z => ⟨(fun q hq => by cases hq), k, h3, comp, h4⟩, h5⟩
set_option maxHeartbeats 4000000 in
set_option maxRecDepth 100000 in
theorem ls_K {s : State} {b : Nat} (hts : ∀ w ∈ lw_tbl, w.before #[Value.ref b] s = true) : ∃ (D : va_G) (cc : Nat → ClassId), va_K D vwCl (tyL cc) s := by
  obtain ⟨c0, i0, k0⟩ := u_known (C := RX0) (T := TX0) (N := 9) (n := 9) hts wsX00_in (hts (.instantiable RX0 9) (List.mem_of_getElem? (i := 184) (by decide +kernel)))
  obtain ⟨c1, i1, k1⟩ := u_known (C := RX1) (T := TX1) (N := 7) (n := 7) hts wsX10_in (hts (.instantiable RX1 7) (List.mem_of_getElem? (i := 219) (by decide +kernel)))
  obtain ⟨c2, i2, k2⟩ := u_known (C := RX2) (T := TX2) (N := 7) (n := 7) hts wsX20_in (hts (.instantiable RX2 7) (List.mem_of_getElem? (i := 93) (by decide +kernel)))
  obtain ⟨c3, i3, k3⟩ := u_known (C := RX3) (T := TX3) (N := 6) (n := 6) hts wsX30_in (hts (.instantiable RX3 6) (List.mem_of_getElem? (i := 225) (by decide +kernel)))
  obtain ⟨c4, i4, k4⟩ := u_known (C := RX4) (T := TX4) (N := 10) (n := 10) hts wsX40_in (hts (.instantiable RX4 10) (List.mem_of_getElem? (i := 142) (by decide +kernel)))
  obtain ⟨c5, i5, k5⟩ := u_known (C := RX5) (T := TX5) (N := 12) (n := 12) hts wsX50_in (hts (.instantiable RX5 12) (List.mem_of_getElem? (i := 85) (by decide +kernel)))
  obtain ⟨c6, i6, k6⟩ := u_known (C := RX6) (T := TX6) (N := 22) (n := 22) hts wsX60_in (hts (.instantiable RX6 22) (List.mem_of_getElem? (i := 739) (by decide +kernel)))
  obtain ⟨a0, ha0⟩ := ls_prim (hts (.arrayClass .int) (List.mem_of_getElem? (i := 139) (by decide +kernel))) (fun C h => by cases h)
  obtain ⟨a1, ha1⟩ := ls_prim (hts (.arrayClass .long) (List.mem_of_getElem? (i := 250) (by decide +kernel))) (fun C h => by cases h)
  obtain ⟨a2, ha2⟩ := ls_prim (hts (.arrayClass .boolean) (List.mem_of_getElem? (i := 182) (by decide +kernel))) (fun C h => by cases h)
  obtain ⟨a3, ha3⟩ := ls_obj (hts (.arrayOver (.object "FeatureClashes$Setup")) (List.mem_of_getElem? (i := 140) (by decide +kernel)))
  obtain ⟨a4, ha4⟩ := ls_arr (hts (.arrayOver (.array .int)) (List.mem_of_getElem? (i := 99) (by decide +kernel)))
  refine ⟨(fun k => [c0, c1, c2, c3, c4, c5, c6].getD k c0, fun k => [i0, i1, i2, i3, i4, i5, i6].getD k i0), fun k => [a0, a1, a2, a3, a4].getD k a0, ?_, ?_⟩
  · intro k q hq
    match k, hq with
    | 0, hq => cases hq; exact k0
    | 1, hq => cases hq; exact k1
    | 2, hq => cases hq; exact k2
    | 3, hq => cases hq; exact k3
    | 4, hq => cases hq; exact k4
    | 5, hq => cases hq; exact k5
    | 6, hq => cases hq; exact k6
    | k + 7, hq => exact absurd hq (by simp [vwCl])
  · intro k q hq
    match k, hq with
    | 0, hq => cases hq; exact ha0
    | 1, hq => cases hq; exact ha1
    | 2, hq => cases hq; exact ha2
    | 3, hq => cases hq; exact ha3
    | 4, hq => cases hq; exact ha4
    | k + 5, hq => exact absurd hq (by simp [tyL])
set_option maxHeartbeats 4000000 in
set_option maxRecDepth 100000 in
/-- the law from its entry, over any relation that both constructors begin and every call keeps -/
theorem whole_open {p : Program} {e : Env} {s : State} {m : MethodId} {below : List Frame} {meth : Method} {c : Code} (l : Launch) {b L : Nat} {xs : Nat → Int32} (hL : L ≤ 3072) (C0 : lw_At p s m meth c b L xs) {R : Mem → Mem → Prop} {PS PM : Mem → Prop} (hPS : f_J7_fill_53178 1 32 (-1) memS PS) (hPM : f_X6_anew 2 2 zeroM PM) (hR0 : ∀ a b c M, PS a → PS b → PS c → PM M → R (memX a b c) M) (s_begin : LS_begin R) (s_setArrow : LS_setArrow R) (s_removeArrow : LS_removeArrow R) (s_addFeature : LS_addFeature R) (s_change : LS_change R) (s_changeToNone : LS_changeToNone R) (s_unchange : LS_unchange R) (s_setOn : LS_setOn R) (s_features : LS_features R) (s_changes : LS_changes R) (s_append : LS_append R) (s_clearText : LS_clearText R) (s_faultPosition : LS_faultPosition R) (s_read : LS_read R) (s_clash : LS_clash R) (s_witness : LS_witness R) (s_clashes : LS_clashes R) (s_results : LS_results R) (s_reach : LS_reach R) (s_setBefore : LS_setBefore R) (s_clearPriorities : LS_clearPriorities R) (s_isBefore : LS_isBefore R) (s_orders : LS_orders R) (s_resolved : LS_resolved R) (s_open : LS_open R) (s_isResolved : LS_isResolved R) (s_resolve : LS_resolve R) (s_add : LS_add R) (s_clearWord : LS_clearWord R) (s_answer : LS_answer R) (s_effect : LS_effect R) (s_save : LS_save R) (s_restore : LS_restore R) (s_checksum : LS_checksum R) : W p l e room_1 s m #[Value.ref b] below meth c s.heap [] 0 0 (lw_Z below #[Value.ref b] s) (entryFrame m ([Value.ref b] : List Value).toArray 4) := by
  obtain ⟨hx, hb, hr, hml, hown, hts0, hX, hbl, hlocks, hgv⟩ := id C0
  have hts : ∀ w ∈ wsL_law, w.before #[Value.ref b] s = true := fun w h => hts0 w (wsL_law_in w h)
  have hA : ∀ q : Nat, s.heap.size ≤ q → (fun q : Nat => s.heap.size ≤ q) q := fun _ h => h
  have hNC := ls_NC hts0
  have hN := ls_NW hts0
  obtain ⟨D, cc, hK⟩ := ls_K hts0
  have hS : va_S (fun q : Nat => s.heap.size ≤ q) s.heap s.heap [] := va_S.rf
  have hP : va_P D vwCl [] s.heap := fun k q h => by simp at h
  have hD : va_D (fun q : Nat => s.heap.size ≤ q) [] := ⟨fun i j p q h => by simp at h, fun k q h => by simp at h⟩
  have hl := lv_entry ([.ref b]) (n := 4) (Nat.le_of_ble_eq_true rfl)
  rw [lg_entry_eq]
  generalize (lg_sl ([.ref b]) ++ List.replicate (4 - (lg_sl ([.ref b])).length) Slot.unset).toArray = ls at hl ⊢
  have hl : lv_has ls 4 [(0, .ref b)] := hl
  refine va_new (ci := 5) (fs := [.null, .null, .null, .null, .null, .int 0, .null, .null, .null, .null, .null, .null]) (C := RX5) (T := TX5) (N := 12) hx hb hts0 wsX50_in tyX5 tyX5_ok hown (hts0 (.classLink RL 7 RX5) (List.mem_of_getElem? (i := 84) (by decide +kernel))) (hts0 (.instantiable RX5 12) (List.mem_of_getElem? (i := 85) (by decide +kernel))) (hts0 (.initialized RX5) (List.mem_of_getElem? (i := 73) (by decide +kernel))) hK hP hD hS hA rfl (fun j hj => by rcases (show j = 0 ∨ j = 1 ∨ j = 2 ∨ j = 3 ∨ j = 4 ∨ j = 5 ∨ j = 6 ∨ j = 7 ∨ j = 8 ∨ j = 9 ∨ j = 10 ∨ j = 11 by omega) with rfl | rfl | rfl | rfl | rfl | rfl | rfl | rfl | rfl | rfl | rfl | rfl <;> rfl) (Nat.le_of_ble_eq_true rfl) (Nat.le_of_ble_eq_true rfl) dL_law_0 (fun q1 H hP hD hS => ?_)
  refine W.widen (k := 1) (n := 12) (Nat.le_of_ble_eq_true rfl) (Nat.le_of_ble_eq_true rfl) ?_
  refine lv_dup hx hb dL_law_3 rfl ?_
  have hPc := zn_tail (ws := []) hP
  have hDc := zn_tailD (ws := []) hD
  have hFc := zn_free (ws := []) hD hS hA
  refine va_callv (va_runI (As := []) (rest := [.ref q1]) ⟨hx, hb, hml, hown, hts⟩ (c_X5_init l D cc q1 H.size PS hPS) (cwI 0 hts gL_law_X5_init rfl rfl rfl (hts0 (.initialized RX5) (List.mem_of_getElem? (i := 73) (by decide +kernel))) (hts0 (.methodLink RL 9 yX5_init) (List.mem_of_getElem? (i := 86) (by decide +kernel))) (hts0 (.instanceMethod yX5_init) (List.mem_of_getElem? (i := 87) (by decide +kernel))) rfl (by decide +kernel) ⟨Nat.le_of_ble_eq_true rfl, Nat.le_of_ble_eq_true rfl⟩) ⟨NC_blind, fun U hU hW => ⟨rfl, by rw [hU], by rw [hU]; exact hPc, va_K.moved hW.alike hK, hDc.weaken (fun _ _ _ _ => trivial), hNC.warm hW⟩⟩ rfl rfl hl.1 rfl (lv_room (Nat.le_of_ble_eq_true rfl)) dL_law_4 ⟨Nat.le_of_ble_eq_true rfl, Nat.le_of_ble_eq_true rfl⟩) hS (fun q _ h => hFc q h) hFc (fun uX t H1 locs ht hvm hwuX hB hz1 hk1 hS => ?_)
  obtain ⟨hP1, hK1, hD1⟩ := hB
  rw [ht] at hP1
  obtain ⟨hP, hD⟩ := zn_app (ws := []) (w1 := wW shX 67 cc uX.1 uX.2) hP hD hk1 hFc hP1 hD1
  generalize H1 = H at hP hS ⊢
  have hP : va_P D vwCl (wW shX 67 cc uX.1 uX.2) H := hP
  have hD : va_D (fun q : Nat => s.heap.size ≤ q) (wW shX 67 cc uX.1 uX.2) := hD
  refine W.widen (k := 67) (n := 4650) (Nat.le_of_ble_eq_true rfl) (Nat.le_of_ble_eq_true rfl) ?_
  refine lv_astore_n (lv' := [(1, .ref q1), (0, .ref b)]) hx hb dL_law_7 rfl hl (by decide) rfl (fun ls hl => ?_)
  refine va_new (ci := 6) (fs := [.null, .null, .null, .null, .int 0, .null, .int 0, .int 0, .null, .int 0, .null, .null, .null, .null, .null, .null, .null, .null, .int 0, .null, .null, .null]) (C := RX6) (T := TX6) (N := 22) hx hb hts0 wsX60_in tyX6 tyX6_ok hown (hts0 (.classLink RL 10 RX6) (List.mem_of_getElem? (i := 738) (by decide +kernel))) (hts0 (.instantiable RX6 22) (List.mem_of_getElem? (i := 739) (by decide +kernel))) (hts0 (.initialized RX6) (List.mem_of_getElem? (i := 80) (by decide +kernel))) hK hP hD hS hA rfl (fun j hj => by rcases (show j = 0 ∨ j = 1 ∨ j = 2 ∨ j = 3 ∨ j = 4 ∨ j = 5 ∨ j = 6 ∨ j = 7 ∨ j = 8 ∨ j = 9 ∨ j = 10 ∨ j = 11 ∨ j = 12 ∨ j = 13 ∨ j = 14 ∨ j = 15 ∨ j = 16 ∨ j = 17 ∨ j = 18 ∨ j = 19 ∨ j = 20 ∨ j = 21 by omega) with rfl | rfl | rfl | rfl | rfl | rfl | rfl | rfl | rfl | rfl | rfl | rfl | rfl | rfl | rfl | rfl | rfl | rfl | rfl | rfl | rfl | rfl <;> rfl) (Nat.le_of_ble_eq_true rfl) (Nat.le_of_ble_eq_true rfl) dL_law_8 (fun q2 H hP hD hS => ?_)
  refine W.widen (k := 68) (n := 4672) (Nat.le_of_ble_eq_true rfl) (Nat.le_of_ble_eq_true rfl) ?_
  refine lv_dup hx hb dL_law_11 rfl ?_
  have hPc := zn_tail (ws := wW shX 67 cc uX.1 uX.2) hP
  have hDc := zn_tailD (ws := wW shX 67 cc uX.1 uX.2) hD
  have hFc := zn_free (ws := wW shX 67 cc uX.1 uX.2) hD hS hA
  refine va_callv (va_runI (As := []) (rest := [.ref q2]) ⟨hx, hb, hml, hown, hts⟩ (c_X6_init l D cc q2 H.size PM hPM) (cwI 0 hts gL_law_X6_init rfl rfl rfl (hts0 (.initialized RX6) (List.mem_of_getElem? (i := 80) (by decide +kernel))) (hts0 (.methodLink RL 12 yX6_init) (List.mem_of_getElem? (i := 740) (by decide +kernel))) (hts0 (.instanceMethod yX6_init) (List.mem_of_getElem? (i := 741) (by decide +kernel))) rfl (by decide +kernel) ⟨Nat.le_of_ble_eq_true rfl, Nat.le_of_ble_eq_true rfl⟩) ⟨NC_blind, fun U hU hW => ⟨rfl, by rw [hU], by rw [hU]; exact hPc, va_K.moved hW.alike hK, hDc.weaken (fun _ _ _ _ => trivial), hNC.warm hW⟩⟩ rfl rfl hl.1 rfl (lv_room (Nat.le_of_ble_eq_true rfl)) dL_law_12 ⟨Nat.le_of_ble_eq_true rfl, Nat.le_of_ble_eq_true rfl⟩) hS (fun q _ h => hFc q h) hFc (fun uM t H1 locs ht hvm hwuM hB hz1 hk1 hS => ?_)
  obtain ⟨hP1, hK1, hD1⟩ := hB
  rw [ht] at hP1
  obtain ⟨hP, hD⟩ := zn_app (ws := wW shX 67 cc uX.1 uX.2) (w1 := wW shM 18 cc uM.1 uM.2) hP hD hk1 hFc hP1 hD1
  generalize H1 = H at hP hS ⊢
  refine W.widen (k := 85) (n := 29051) (Nat.le_of_ble_eq_true rfl) (Nat.le_of_ble_eq_true rfl) ?_
  refine lv_astore_n (lv' := [(2, .ref q2), (1, .ref q1), (0, .ref b)]) hx hb dL_law_15 rfl hl (by decide) rfl (fun ls hl => ?_)
  refine lv_iconst (v := 0) hx hb dL_law_16 (by decide) ?_
  refine lv_istore_n (lv' := [(3, .int 0), (2, .ref q2), (1, .ref q1), (0, .ref b)]) hx hb dL_law_17 rfl hl (by decide) rfl (fun ls hl => ?_)
  obtain ⟨eX, ma, mb, mc, h1, h2, h3, eM⟩ := hwuX
  obtain ⟨eM2, h4⟩ := hwuM
  have hl := lv_sub hl [3, 2, 1, 0] rfl
  rw [← eX, ← eM2] at hl
  exact law_loop hL C0 hK hN ⟨Nat.le_of_ble_eq_true rfl, Nat.le_of_ble_eq_true rfl⟩ s_begin s_setArrow s_removeArrow s_addFeature s_change s_changeToNone s_unchange s_setOn s_features s_changes s_append s_clearText s_faultPosition s_read s_clash s_witness s_clashes s_results s_reach s_setBefore s_clearPriorities s_isBefore s_orders s_resolved s_open s_isResolved s_resolve s_add s_clearWord s_answer s_effect s_save s_restore s_checksum (L + 1) 0 0 (Nat.zero_le L) (by omega) nI_0.symm uX.2 uM.2 _ _ ls (by rw [eM]; exact hR0 ma mb mc uM.2 h1 h2 h3 h4) hP hD hS hl
