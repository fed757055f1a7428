set_option maxHeartbeats 8000000 in
set_option maxRecDepth 100000 in
/-- the law's loop -/
theorem law_loop {p : Program} {l : Launch} {e : Env} {s : State} {m : MethodId} {below : List Frame} {meth : Method} {c : Code} {D : va_G} {cc : Nat → ClassId} {adX adM : Nat → Nat} {b L : Nat} {xs : Nat → Int32} {nc ns : Nat} {R : Mem → Mem → Prop} (hL : L ≤ 3072) (C0 : lw_At p s m meth c b L xs) (hK : va_K D vwCl (tyL cc) s) (hN : NW s) (hc : nc ≤ room_1.cells ∧ ns ≤ room_1.slots) (s_begin : LS_begin R) (s_setArrow : LS_setArrow R) (s_removeArrow : LS_removeArrow R) (s_addFeature : LS_addFeature R) (s_change : LS_change R) (s_changeToNone : LS_changeToNone R) (s_unchange : LS_unchange R) (s_setOn : LS_setOn R) (s_features : LS_features R) (s_changes : LS_changes R) (s_append : LS_append R) (s_clearText : LS_clearText R) (s_faultPosition : LS_faultPosition R) (s_read : LS_read R) (s_clash : LS_clash R) (s_witness : LS_witness R) (s_clashes : LS_clashes R) (s_results : LS_results R) (s_reach : LS_reach R) (s_setBefore : LS_setBefore R) (s_clearPriorities : LS_clearPriorities R) (s_isBefore : LS_isBefore R) (s_orders : LS_orders R) (s_resolved : LS_resolved R) (s_open : LS_open R) (s_isResolved : LS_isResolved R) (s_resolve : LS_resolve R) (s_add : LS_add R) (s_clearWord : LS_clearWord R) (s_answer : LS_answer R) (s_effect : LS_effect R) (s_save : LS_save R) (s_restore : LS_restore R) (s_checksum : LS_checksum R) :
    ∀ (n i : Nat) (x3 : Int32), i ≤ L → L + 1 ≤ i + n → x3 = nI i → ∀ (X0 M0 : Mem) (H : Heap) (locs : List Loc) (ls : Array Slot), R X0 M0 → va_P D vwCl (wW shX 67 cc adX X0 ++ wW shM 18 cc adM M0) H → va_D (fun q : Nat => s.heap.size ≤ q) (wW shX 67 cc adX X0 ++ wW shM 18 cc adM M0) → va_S (fun q : Nat => s.heap.size ≤ q) s.heap H locs → lv_has ls 4 [(0, .ref b), (1, .ref (adX 0)), (2, .ref (adM 0)), (3, .int x3)] → W p l e room_1 s m #[Value.ref b] below meth c H locs nc ns (lw_Z below #[Value.ref b] s) (F0 m 18 ls []) := by
  have C1 := C0
  obtain ⟨hx, hb, hr, hml, hown, hts0, hX, hbl, hlocks, hgv⟩ := C0
  have hbA : ¬ (fun q : Nat => s.heap.size ≤ q) b := Nat.not_le.mpr hbl
  intro n
  induction n with
  | zero =>
    intro i x3 h1 h2
    exact absurd h2 (by omega)
  | succ n ih =>
    intro i x3 hi hin ex3 X0 M0 H locs ls hR hP hD hS hl
    refine lv_iload_n hx hb dL_law_18 rfl (lv_at hl 3 rfl) ?_
    refine lv_aload_n hx hb dL_law_19 rfl (lv_at hl 0 rfl) ?_
    refine va_slen hx hb hX hbl hbA hS dL_law_20 ?_
    refine lv_bipush (v := 6) hx hb dL_law_21 (by decide) ?_
    refine lv_isub hx hb dL_law_23 ?_
    refine lv_icmp_gt (tgt := 1059) hx hb dL_law_24 (by decide) (fun c1 => ?_) (fun c1 => ?_)
    · refine lv_iconst (v := 1) hx hb dL_law_1059 (by decide) ?_
      refine va_forget (fun q hq => hS.2.2 q hq) ?_
      refine W.widen (k := 600000) (n := 7302250) hc.1 hc.2 ?_
      exact lw_ret hx hb hr hlocks dL_law_1060
    · have hle : i + 6 ≤ L := by
        have e1 : (nI L - nI 6).toInt = (L : Int) - (6 : Nat) := pk_sub_toInt (by omega) (by decide)
        have e2 : (nI i).toInt = (i : Int) := nI_toInt (by omega)
        rcases Nat.lt_or_ge L (i + 6) with q | q
        · exact absurd (by rw [ex3]; show nI L - nI 6 < nI i; rw [Int32.lt_iff_toInt_lt, e1, e2]; omega) c1
        · exact q
      have h0 : vp_in (x3 + 0) L := by rw [ex3]; show vp_in (nI i + nI 0) L; rw [nI_add]; exact vp_in_nI (by omega) (by omega)
      have h1 : vp_in (x3 + 1) L := by rw [ex3]; show vp_in (nI i + nI 1) L; rw [nI_add]; exact vp_in_nI (by omega) (by omega)
      have h2 : vp_in (x3 + 2) L := by rw [ex3]; show vp_in (nI i + nI 2) L; rw [nI_add]; exact vp_in_nI (by omega) (by omega)
      have h3 : vp_in (x3 + 3) L := by rw [ex3]; show vp_in (nI i + nI 3) L; rw [nI_add]; exact vp_in_nI (by omega) (by omega)
      have h4 : vp_in (x3 + 4) L := by rw [ex3]; show vp_in (nI i + nI 4) L; rw [nI_add]; exact vp_in_nI (by omega) (by omega)
      have h5 : vp_in (x3 + 5) L := by rw [ex3]; show vp_in (nI i + nI 5) L; rw [nI_add]; exact vp_in_nI (by omega) (by omega)
      have h00 : vp_in x3 L := by rw [ex3]; exact vp_in_nI (by omega) (by omega)
      refine lv_aload_n hx hb dL_law_27 rfl (lv_at hl 0 rfl) ?_
      refine lv_iload_n hx hb dL_law_28 rfl (lv_at hl 3 rfl) ?_
      refine va_sld hx hb hX hbl hbA hS h00 dL_law_29 ?_
      refine lv_bipush (v := 63) hx hb dL_law_30 (by decide) ?_
      refine lv_iand hx hb dL_law_32 ?_
      refine lv_topi (fun y ey => ?_)
      have kk : ∀ (X1 M1 : Mem) (H : Heap) (locs : List Loc) (ls : Array Slot), R X1 M1 → va_P D vwCl (wW shX 67 cc adX X1 ++ wW shM 18 cc adM M1) H → va_D (fun q : Nat => s.heap.size ≤ q) (wW shX 67 cc adX X1 ++ wW shM 18 cc adM M1) → va_S (fun q : Nat => s.heap.size ≤ q) s.heap H locs → lv_has ls 4 [(0, .ref b), (1, .ref (adX 0)), (2, .ref (adM 0)), (3, .int x3)] → W p l e room_1 s m #[Value.ref b] below meth c H locs nc ns (lw_Z below #[Value.ref b] s) (F0 m 1053 ls []) := by
        intro X1 M1 H locs ls hR hP hD hS hl
        obtain ⟨x4, ex4⟩ : ∃ y : Int32, y = x3 + 6 := ⟨_, rfl⟩
        refine lv_iinc (v := x4) (lv' := [(3, .int x4), (0, .ref b), (1, .ref (adX 0)), (2, .ref (adM 0))]) hx hb dL_law_1053 hl (k := 3) rfl (by rw [ex4]; rfl) (by decide) rfl (fun ls hl => ?_)
        refine lv_goto (tgt := 18) hx hb dL_law_1056 (by decide) ?_
        exact ih (i + 6) x4 hle (by omega) (by rw [ex4, ex3]; show nI i + nI 6 = _; rw [nI_add]) X1 M1 H locs ls hR hP hD hS (lv_sub hl [1, 2, 3, 0] rfl)
      refine Classical.byCases (p := y = 0) (fun n0 => ?_) (fun n0 => ?_)
      · refine lv_tableIn (off := 151) (tgt := 184) hx hb dL_law_33 (by rw [n0]; decide) (by rw [n0]; decide) (by rw [n0]; rfl) (by decide) ?_
        exact law_begin C1 hK hN hc h1 h2 (s_begin X0 M0 _ _ hR) hP hD hS hl kk
      refine Classical.byCases (p := y = 1) (fun n1 => ?_) (fun n1 => ?_)
      · refine lv_tableIn (off := 184) (tgt := 217) hx hb dL_law_33 (by rw [n1]; decide) (by rw [n1]; decide) (by rw [n1]; rfl) (by decide) ?_
        exact law_setArrow C1 hK hN hc h1 h2 h3 h4 (s_setArrow X0 M0 _ _ _ _ hR) hP hD hS hl kk
      refine Classical.byCases (p := y = 2) (fun n2 => ?_) (fun n2 => ?_)
      · refine lv_tableIn (off := 237) (tgt := 270) hx hb dL_law_33 (by rw [n2]; decide) (by rw [n2]; decide) (by rw [n2]; rfl) (by decide) ?_
        exact law_removeArrow C1 hK hN hc h1 h2 (s_removeArrow X0 M0 _ _ hR) hP hD hS hl kk
      refine Classical.byCases (p := y = 3) (fun n3 => ?_) (fun n3 => ?_)
      · refine lv_tableIn (off := 270) (tgt := 303) hx hb dL_law_33 (by rw [n3]; decide) (by rw [n3]; decide) (by rw [n3]; rfl) (by decide) ?_
        exact law_addFeature C1 hK hN hc  (s_addFeature X0 M0 hR) hP hD hS hl kk
      refine Classical.byCases (p := y = 4) (fun n4 => ?_) (fun n4 => ?_)
      · refine lv_tableIn (off := 283) (tgt := 316) hx hb dL_law_33 (by rw [n4]; decide) (by rw [n4]; decide) (by rw [n4]; rfl) (by decide) ?_
        exact law_change C1 hK hN hc h1 h2 h3 h4 h5 (s_change X0 M0 _ _ _ _ _ hR) hP hD hS hl kk
      refine Classical.byCases (p := y = 5) (fun n5 => ?_) (fun n5 => ?_)
      · refine lv_tableIn (off := 346) (tgt := 379) hx hb dL_law_33 (by rw [n5]; decide) (by rw [n5]; decide) (by rw [n5]; rfl) (by decide) ?_
        exact law_changeToNone C1 hK hN hc h1 h2 h3 (s_changeToNone X0 M0 _ _ _ hR) hP hD hS hl kk
      refine Classical.byCases (p := y = 6) (fun n6 => ?_) (fun n6 => ?_)
      · refine lv_tableIn (off := 389) (tgt := 422) hx hb dL_law_33 (by rw [n6]; decide) (by rw [n6]; decide) (by rw [n6]; rfl) (by decide) ?_
        exact law_unchange C1 hK hN hc h1 h2 h3 (s_unchange X0 M0 _ _ _ hR) hP hD hS hl kk
      refine Classical.byCases (p := y = 7) (fun n7 => ?_) (fun n7 => ?_)
      · refine lv_tableIn (off := 432) (tgt := 465) hx hb dL_law_33 (by rw [n7]; decide) (by rw [n7]; decide) (by rw [n7]; rfl) (by decide) ?_
        exact law_setOn C1 hK hN hc h1 h2 (⟨fun _ => (s_setOn X0 M0 _ hR).1, fun _ => (s_setOn X0 M0 _ hR).2⟩) hP hD hS hl kk
      refine Classical.byCases (p := y = 8) (fun n8 => ?_) (fun n8 => ?_)
      · refine lv_tableIn (off := 481) (tgt := 514) hx hb dL_law_33 (by rw [n8]; decide) (by rw [n8]; decide) (by rw [n8]; rfl) (by decide) ?_
        exact law_features C1 hK hN hc  (s_features X0 M0 hR) hP hD hS hl kk
      refine Classical.byCases (p := y = 9) (fun n9 => ?_) (fun n9 => ?_)
      · refine lv_tableIn (off := 494) (tgt := 527) hx hb dL_law_33 (by rw [n9]; decide) (by rw [n9]; decide) (by rw [n9]; rfl) (by decide) ?_
        exact law_changes C1 hK hN hc h1 (s_changes X0 M0 _ hR) hP hD hS hl kk
      refine Classical.byCases (p := y = 10) (fun n10 => ?_) (fun n10 => ?_)
      · refine lv_tableIn (off := 517) (tgt := 550) hx hb dL_law_33 (by rw [n10]; decide) (by rw [n10]; decide) (by rw [n10]; rfl) (by decide) ?_
        exact law_append C1 hK hN hc h1 (s_append X0 M0 _ hR) hP hD hS hl kk
      refine Classical.byCases (p := y = 11) (fun n11 => ?_) (fun n11 => ?_)
      · refine lv_tableIn (off := 540) (tgt := 573) hx hb dL_law_33 (by rw [n11]; decide) (by rw [n11]; decide) (by rw [n11]; rfl) (by decide) ?_
        exact law_clearText C1 hK hN hc  (s_clearText X0 M0 hR) hP hD hS hl kk
      refine Classical.byCases (p := y = 12) (fun n12 => ?_) (fun n12 => ?_)
      · refine lv_tableIn (off := 553) (tgt := 586) hx hb dL_law_33 (by rw [n12]; decide) (by rw [n12]; decide) (by rw [n12]; rfl) (by decide) ?_
        exact law_faultPosition C1 hK hN hc  (s_faultPosition X0 M0 hR) hP hD hS hl kk
      refine Classical.byCases (p := y = 13) (fun n13 => ?_) (fun n13 => ?_)
      · refine lv_tableIn (off := 566) (tgt := 599) hx hb dL_law_33 (by rw [n13]; decide) (by rw [n13]; decide) (by rw [n13]; rfl) (by decide) ?_
        exact law_read C1 hK hN hc h1 (s_read X0 M0 _ hR) hP hD hS hl kk
      refine Classical.byCases (p := y = 14) (fun n14 => ?_) (fun n14 => ?_)
      · refine lv_tableIn (off := 589) (tgt := 622) hx hb dL_law_33 (by rw [n14]; decide) (by rw [n14]; decide) (by rw [n14]; rfl) (by decide) ?_
        exact law_clash C1 hK hN hc h1 h2 (s_clash X0 M0 _ _ hR) hP hD hS hl kk
      refine Classical.byCases (p := y = 15) (fun n15 => ?_) (fun n15 => ?_)
      · refine lv_tableIn (off := 622) (tgt := 655) hx hb dL_law_33 (by rw [n15]; decide) (by rw [n15]; decide) (by rw [n15]; rfl) (by decide) ?_
        exact law_witness C1 hK hN hc h1 h2 h3 (s_witness X0 M0 _ _ _ hR) hP hD hS hl kk
      refine Classical.byCases (p := y = 16) (fun n16 => ?_) (fun n16 => ?_)
      · refine lv_tableIn (off := 665) (tgt := 698) hx hb dL_law_33 (by rw [n16]; decide) (by rw [n16]; decide) (by rw [n16]; rfl) (by decide) ?_
        exact law_clashes C1 hK hN hc  (s_clashes X0 M0 hR) hP hD hS hl kk
      refine Classical.byCases (p := y = 17) (fun n17 => ?_) (fun n17 => ?_)
      · refine lv_tableIn (off := 678) (tgt := 711) hx hb dL_law_33 (by rw [n17]; decide) (by rw [n17]; decide) (by rw [n17]; rfl) (by decide) ?_
        exact law_results C1 hK hN hc  (s_results X0 M0 hR) hP hD hS hl kk
      refine Classical.byCases (p := y = 18) (fun n18 => ?_) (fun n18 => ?_)
      · refine lv_tableIn (off := 691) (tgt := 724) hx hb dL_law_33 (by rw [n18]; decide) (by rw [n18]; decide) (by rw [n18]; rfl) (by decide) ?_
        exact law_reach C1 hK hN hc h1 (s_reach X0 M0 _ hR) hP hD hS hl kk
      refine Classical.byCases (p := y = 19) (fun n19 => ?_) (fun n19 => ?_)
      · refine lv_tableIn (off := 714) (tgt := 747) hx hb dL_law_33 (by rw [n19]; decide) (by rw [n19]; decide) (by rw [n19]; rfl) (by decide) ?_
        exact law_setBefore C1 hK hN hc h1 h2 (s_setBefore X0 M0 _ _ hR) hP hD hS hl kk
      refine Classical.byCases (p := y = 20) (fun n20 => ?_) (fun n20 => ?_)
      · refine lv_tableIn (off := 747) (tgt := 780) hx hb dL_law_33 (by rw [n20]; decide) (by rw [n20]; decide) (by rw [n20]; rfl) (by decide) ?_
        exact law_clearPriorities C1 hK hN hc  (s_clearPriorities X0 M0 hR) hP hD hS hl kk
      refine Classical.byCases (p := y = 21) (fun n21 => ?_) (fun n21 => ?_)
      · refine lv_tableIn (off := 760) (tgt := 793) hx hb dL_law_33 (by rw [n21]; decide) (by rw [n21]; decide) (by rw [n21]; rfl) (by decide) ?_
        exact law_isBefore C1 hK hN hc h1 h2 (s_isBefore X0 M0 _ _ hR) hP hD hS hl kk
      refine Classical.byCases (p := y = 22) (fun n22 => ?_) (fun n22 => ?_)
      · refine lv_tableIn (off := 793) (tgt := 826) hx hb dL_law_33 (by rw [n22]; decide) (by rw [n22]; decide) (by rw [n22]; rfl) (by decide) ?_
        exact law_orders C1 hK hN hc  (s_orders X0 M0 hR) hP hD hS hl kk
      refine Classical.byCases (p := y = 23) (fun n23 => ?_) (fun n23 => ?_)
      · refine lv_tableIn (off := 806) (tgt := 839) hx hb dL_law_33 (by rw [n23]; decide) (by rw [n23]; decide) (by rw [n23]; rfl) (by decide) ?_
        exact law_resolved C1 hK hN hc h1 (s_resolved X0 M0 _ hR) hP hD hS hl kk
      refine Classical.byCases (p := y = 24) (fun n24 => ?_) (fun n24 => ?_)
      · refine lv_tableIn (off := 829) (tgt := 862) hx hb dL_law_33 (by rw [n24]; decide) (by rw [n24]; decide) (by rw [n24]; rfl) (by decide) ?_
        exact law_open C1 hK hN hc  (s_open X0 M0 hR) hP hD hS hl kk
      refine Classical.byCases (p := y = 25) (fun n25 => ?_) (fun n25 => ?_)
      · refine lv_tableIn (off := 842) (tgt := 875) hx hb dL_law_33 (by rw [n25]; decide) (by rw [n25]; decide) (by rw [n25]; rfl) (by decide) ?_
        exact law_isResolved C1 hK hN hc  (s_isResolved X0 M0 hR) hP hD hS hl kk
      refine Classical.byCases (p := y = 26) (fun n26 => ?_) (fun n26 => ?_)
      · refine lv_tableIn (off := 855) (tgt := 888) hx hb dL_law_33 (by rw [n26]; decide) (by rw [n26]; decide) (by rw [n26]; rfl) (by decide) ?_
        exact law_resolve C1 hK hN hc  (s_resolve X0 M0 hR) hP hD hS hl kk
      refine Classical.byCases (p := y = 27) (fun n27 => ?_) (fun n27 => ?_)
      · refine lv_tableIn (off := 868) (tgt := 901) hx hb dL_law_33 (by rw [n27]; decide) (by rw [n27]; decide) (by rw [n27]; rfl) (by decide) ?_
        exact law_add C1 hK hN hc h1 (s_add X0 M0 _ hR) hP hD hS hl kk
      refine Classical.byCases (p := y = 28) (fun n28 => ?_) (fun n28 => ?_)
      · refine lv_tableIn (off := 891) (tgt := 924) hx hb dL_law_33 (by rw [n28]; decide) (by rw [n28]; decide) (by rw [n28]; rfl) (by decide) ?_
        exact law_clearWord C1 hK hN hc  (s_clearWord X0 M0 hR) hP hD hS hl kk
      refine Classical.byCases (p := y = 29) (fun n29 => ?_) (fun n29 => ?_)
      · refine lv_tableIn (off := 904) (tgt := 937) hx hb dL_law_33 (by rw [n29]; decide) (by rw [n29]; decide) (by rw [n29]; rfl) (by decide) ?_
        exact law_answer C1 hK hN hc h1 h2 (s_answer X0 M0 _ _ hR) hP hD hS hl kk
      refine Classical.byCases (p := y = 30) (fun n30 => ?_) (fun n30 => ?_)
      · refine lv_tableIn (off := 937) (tgt := 970) hx hb dL_law_33 (by rw [n30]; decide) (by rw [n30]; decide) (by rw [n30]; rfl) (by decide) ?_
        exact law_effect C1 hK hN hc h1 (s_effect X0 M0 _ hR) hP hD hS hl kk
      refine Classical.byCases (p := y = 31) (fun n31 => ?_) (fun n31 => ?_)
      · refine lv_tableIn (off := 960) (tgt := 993) hx hb dL_law_33 (by rw [n31]; decide) (by rw [n31]; decide) (by rw [n31]; rfl) (by decide) ?_
        exact law_save C1 hK hN hc h1 (s_save X0 M0 _ hR) hP hD hS hl kk
      refine Classical.byCases (p := y = 32) (fun n32 => ?_) (fun n32 => ?_)
      · refine lv_tableIn (off := 983) (tgt := 1016) hx hb dL_law_33 (by rw [n32]; decide) (by rw [n32]; decide) (by rw [n32]; rfl) (by decide) ?_
        exact law_restore C1 hK hN hc h1 (s_restore X0 M0 _ hR) hP hD hS hl kk
      refine Classical.byCases (p := y = 33) (fun n33 => ?_) (fun n33 => ?_)
      · refine lv_tableIn (off := 1006) (tgt := 1039) hx hb dL_law_33 (by rw [n33]; decide) (by rw [n33]; decide) (by rw [n33]; rfl) (by decide) ?_
        exact law_checksum C1 hK hN hc  (s_checksum X0 M0 hR) hP hD hS hl kk
      have m0 := lv_neT n0 (a := 0) rfl
      have m1 := lv_neT n1 (a := 1) rfl
      have m2 := lv_neT n2 (a := 2) rfl
      have m3 := lv_neT n3 (a := 3) rfl
      have m4 := lv_neT n4 (a := 4) rfl
      have m5 := lv_neT n5 (a := 5) rfl
      have m6 := lv_neT n6 (a := 6) rfl
      have m7 := lv_neT n7 (a := 7) rfl
      have m8 := lv_neT n8 (a := 8) rfl
      have m9 := lv_neT n9 (a := 9) rfl
      have m10 := lv_neT n10 (a := 10) rfl
      have m11 := lv_neT n11 (a := 11) rfl
      have m12 := lv_neT n12 (a := 12) rfl
      have m13 := lv_neT n13 (a := 13) rfl
      have m14 := lv_neT n14 (a := 14) rfl
      have m15 := lv_neT n15 (a := 15) rfl
      have m16 := lv_neT n16 (a := 16) rfl
      have m17 := lv_neT n17 (a := 17) rfl
      have m18 := lv_neT n18 (a := 18) rfl
      have m19 := lv_neT n19 (a := 19) rfl
      have m20 := lv_neT n20 (a := 20) rfl
      have m21 := lv_neT n21 (a := 21) rfl
      have m22 := lv_neT n22 (a := 22) rfl
      have m23 := lv_neT n23 (a := 23) rfl
      have m24 := lv_neT n24 (a := 24) rfl
      have m25 := lv_neT n25 (a := 25) rfl
      have m26 := lv_neT n26 (a := 26) rfl
      have m27 := lv_neT n27 (a := 27) rfl
      have m28 := lv_neT n28 (a := 28) rfl
      have m29 := lv_neT n29 (a := 29) rfl
      have m30 := lv_neT n30 (a := 30) rfl
      have m31 := lv_neT n31 (a := 31) rfl
      have m32 := lv_neT n32 (a := 32) rfl
      have m33 := lv_neT n33 (a := 33) rfl
      refine lv_tableOut (tgt := 1053) hx hb dL_law_33 (by omega) (by decide) ?_
      exact kk X0 M0 H locs ls hR hP hD hS hl
