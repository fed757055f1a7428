/-- 0: begin, on both sides -/
def LS_begin (R : Mem → Mem → Prop) : Prop := ∀ (X0 M0 : Mem) (a1 a2 : Int32), R X0 M0 → f_X5_begin a1 a2 X0 (fun r1 X1 => f_X6_begin a1 a2 M0 (fun r2 M1 => r1 = r2 ∧ R X1 M1))
/-- 1: setArrow, on both sides -/
def LS_setArrow (R : Mem → Mem → Prop) : Prop := ∀ (X0 M0 : Mem) (a1 a2 a3 a4 : Int32), R X0 M0 → f_X5_setArrow a1 a2 a3 a4 X0 (fun r1 X1 => f_X6_setArrow a1 a2 a3 a4 M0 (fun r2 M1 => r1 = r2 ∧ R X1 M1))
/-- 2: removeArrow, on both sides -/
def LS_removeArrow (R : Mem → Mem → Prop) : Prop := ∀ (X0 M0 : Mem) (a1 a2 : Int32), R X0 M0 → f_X5_removeArrow a1 a2 X0 (fun r1 X1 => f_X6_removeArrow a1 a2 M0 (fun r2 M1 => r1 = r2 ∧ R X1 M1))
/-- 3: addFeature, on both sides -/
def LS_addFeature (R : Mem → Mem → Prop) : Prop := ∀ (X0 M0 : Mem), R X0 M0 → f_X5_addFeature  X0 (fun r1 X1 => f_X6_addFeature  M0 (fun r2 M1 => r1 = r2 ∧ R X1 M1))
/-- 4: change, on both sides -/
def LS_change (R : Mem → Mem → Prop) : Prop := ∀ (X0 M0 : Mem) (a1 a2 a3 a4 a5 : Int32), R X0 M0 → f_X5_change a1 a2 a3 a4 a5 X0 (fun r1 X1 => f_X6_change a1 a2 a3 a4 a5 M0 (fun r2 M1 => r1 = r2 ∧ R X1 M1))
/-- 5: changeToNone, on both sides -/
def LS_changeToNone (R : Mem → Mem → Prop) : Prop := ∀ (X0 M0 : Mem) (a1 a2 a3 : Int32), R X0 M0 → f_X5_changeToNone a1 a2 a3 X0 (fun r1 X1 => f_X6_changeToNone a1 a2 a3 M0 (fun r2 M1 => r1 = r2 ∧ R X1 M1))
/-- 6: unchange, on both sides -/
def LS_unchange (R : Mem → Mem → Prop) : Prop := ∀ (X0 M0 : Mem) (a1 a2 a3 : Int32), R X0 M0 → f_X5_unchange a1 a2 a3 X0 (fun r1 X1 => f_X6_unchange a1 a2 a3 M0 (fun r2 M1 => r1 = r2 ∧ R X1 M1))
/-- 7: setOn, on both sides -/
def LS_setOn (R : Mem → Mem → Prop) : Prop := ∀ (X0 M0 : Mem) (a1 : Int32), R X0 M0 → (f_X5_setOn a1 0 X0 (fun r1 X1 => f_X6_setOn a1 0 M0 (fun r2 M1 => r1 = r2 ∧ R X1 M1))) ∧ (f_X5_setOn a1 1 X0 (fun r1 X1 => f_X6_setOn a1 1 M0 (fun r2 M1 => r1 = r2 ∧ R X1 M1)))
/-- 8: features, on both sides -/
def LS_features (R : Mem → Mem → Prop) : Prop := ∀ (X0 M0 : Mem), R X0 M0 → f_X5_features  X0 (fun r1 X1 => f_X6_features  M0 (fun r2 M1 => r1 = r2 ∧ R X1 M1))
/-- 9: changes, on both sides -/
def LS_changes (R : Mem → Mem → Prop) : Prop := ∀ (X0 M0 : Mem) (a1 : Int32), R X0 M0 → f_X5_changes a1 X0 (fun r1 X1 => f_X6_changes a1 M0 (fun r2 M1 => r1 = r2 ∧ R X1 M1))
/-- 10: append, on both sides -/
def LS_append (R : Mem → Mem → Prop) : Prop := ∀ (X0 M0 : Mem) (a1 : Int32), R X0 M0 → f_X5_append a1 X0 (fun r1 X1 => f_X6_append a1 M0 (fun r2 M1 => r1 = r2 ∧ R X1 M1))
/-- 11: clearText, on both sides -/
def LS_clearText (R : Mem → Mem → Prop) : Prop := ∀ (X0 M0 : Mem), R X0 M0 → f_X5_clearText  X0 (fun r1 X1 => f_X6_clearText  M0 (fun r2 M1 => r1 = r2 ∧ R X1 M1))
/-- 12: faultPosition, on both sides -/
def LS_faultPosition (R : Mem → Mem → Prop) : Prop := ∀ (X0 M0 : Mem), R X0 M0 → f_X5_faultPosition  X0 (fun r1 X1 => f_X6_faultPosition  M0 (fun r2 M1 => r1 = r2 ∧ R X1 M1))
/-- 13: read, on both sides -/
def LS_read (R : Mem → Mem → Prop) : Prop := ∀ (X0 M0 : Mem) (a1 : Int32), R X0 M0 → f_X5_read a1 X0 (fun r1 X1 => f_X6_read a1 M0 (fun r2 M1 => r1 = r2 ∧ R X1 M1))
/-- 14: clash, on both sides -/
def LS_clash (R : Mem → Mem → Prop) : Prop := ∀ (X0 M0 : Mem) (a1 a2 : Int32), R X0 M0 → f_X5_clash a1 a2 X0 (fun r1 X1 => f_X6_clash a1 a2 M0 (fun r2 M1 => r1 = r2 ∧ R X1 M1))
/-- 15: witness, on both sides -/
def LS_witness (R : Mem → Mem → Prop) : Prop := ∀ (X0 M0 : Mem) (a1 a2 a3 : Int32), R X0 M0 → f_X5_witness a1 a2 a3 X0 (fun r1 X1 => f_X6_witness a1 a2 a3 M0 (fun r2 M1 => r1 = r2 ∧ R X1 M1))
/-- 16: clashes, on both sides -/
def LS_clashes (R : Mem → Mem → Prop) : Prop := ∀ (X0 M0 : Mem), R X0 M0 → f_X5_clashes  X0 (fun r1 X1 => f_X6_clashes  M0 (fun r2 M1 => r1 = r2 ∧ R X1 M1))
/-- 17: results, on both sides -/
def LS_results (R : Mem → Mem → Prop) : Prop := ∀ (X0 M0 : Mem), R X0 M0 → f_X5_results  X0 (fun r1 X1 => f_X6_results  M0 (fun r2 M1 => r1 = r2 ∧ R X1 M1))
/-- 18: reach, on both sides -/
def LS_reach (R : Mem → Mem → Prop) : Prop := ∀ (X0 M0 : Mem) (a1 : Int32), R X0 M0 → f_X5_reach a1 X0 (fun r1 X1 => f_X6_reach a1 M0 (fun r2 M1 => r1 = r2 ∧ R X1 M1))
/-- 19: setBefore, on both sides -/
def LS_setBefore (R : Mem → Mem → Prop) : Prop := ∀ (X0 M0 : Mem) (a1 a2 : Int32), R X0 M0 → f_X5_setBefore a1 a2 X0 (fun r1 X1 => f_X6_setBefore a1 a2 M0 (fun r2 M1 => r1 = r2 ∧ R X1 M1))
/-- 20: clearPriorities, on both sides -/
def LS_clearPriorities (R : Mem → Mem → Prop) : Prop := ∀ (X0 M0 : Mem), R X0 M0 → f_X5_clearPriorities  X0 (fun r1 X1 => f_X6_clearPriorities  M0 (fun r2 M1 => r1 = r2 ∧ R X1 M1))
/-- 21: isBefore, on both sides -/
def LS_isBefore (R : Mem → Mem → Prop) : Prop := ∀ (X0 M0 : Mem) (a1 a2 : Int32), R X0 M0 → f_X5_isBefore a1 a2 X0 (fun r1 X1 => f_X6_isBefore a1 a2 M0 (fun r2 M1 => r1 = r2 ∧ R X1 M1))
/-- 22: orders, on both sides -/
def LS_orders (R : Mem → Mem → Prop) : Prop := ∀ (X0 M0 : Mem), R X0 M0 → f_X5_orders  X0 (fun r1 X1 => f_X6_orders  M0 (fun r2 M1 => r1 = r2 ∧ R X1 M1))
/-- 23: resolved, on both sides -/
def LS_resolved (R : Mem → Mem → Prop) : Prop := ∀ (X0 M0 : Mem) (a1 : Int32), R X0 M0 → f_X5_resolved a1 X0 (fun r1 X1 => f_X6_resolved a1 M0 (fun r2 M1 => r1 = r2 ∧ R X1 M1))
/-- 24: open, on both sides -/
def LS_open (R : Mem → Mem → Prop) : Prop := ∀ (X0 M0 : Mem), R X0 M0 → f_X5_open  X0 (fun r1 X1 => f_X6_open  M0 (fun r2 M1 => r1 = r2 ∧ R X1 M1))
/-- 25: isResolved, on both sides -/
def LS_isResolved (R : Mem → Mem → Prop) : Prop := ∀ (X0 M0 : Mem), R X0 M0 → f_X5_isResolved  X0 (fun r1 X1 => f_X6_isResolved  M0 (fun r2 M1 => r1 = r2 ∧ R X1 M1))
/-- 26: resolve, on both sides -/
def LS_resolve (R : Mem → Mem → Prop) : Prop := ∀ (X0 M0 : Mem), R X0 M0 → f_X5_resolve  X0 (fun r1 X1 => f_X6_resolve  M0 (fun r2 M1 => r1 = r2 ∧ R X1 M1))
/-- 27: add, on both sides -/
def LS_add (R : Mem → Mem → Prop) : Prop := ∀ (X0 M0 : Mem) (a1 : Int32), R X0 M0 → f_X5_add a1 X0 (fun r1 X1 => f_X6_add a1 M0 (fun r2 M1 => r1 = r2 ∧ R X1 M1))
/-- 28: clearWord, on both sides -/
def LS_clearWord (R : Mem → Mem → Prop) : Prop := ∀ (X0 M0 : Mem), R X0 M0 → f_X5_clearWord  X0 (fun r1 X1 => f_X6_clearWord  M0 (fun r2 M1 => r1 = r2 ∧ R X1 M1))
/-- 29: answer, on both sides -/
def LS_answer (R : Mem → Mem → Prop) : Prop := ∀ (X0 M0 : Mem) (a1 a2 : Int32), R X0 M0 → f_X5_answer a1 a2 X0 (fun r1 X1 => f_X6_answer a1 a2 M0 (fun r2 M1 => r1 = r2 ∧ R X1 M1))
/-- 30: effect, on both sides -/
def LS_effect (R : Mem → Mem → Prop) : Prop := ∀ (X0 M0 : Mem) (a1 : Int32), R X0 M0 → f_X5_effect a1 X0 (fun r1 X1 => f_X6_effect a1 M0 (fun r2 M1 => r1 = r2 ∧ R X1 M1))
/-- 31: save, on both sides -/
def LS_save (R : Mem → Mem → Prop) : Prop := ∀ (X0 M0 : Mem) (a1 : Int32), R X0 M0 → f_X5_save a1 X0 (fun r1 X1 => f_X6_save a1 M0 (fun r2 M1 => r1 = r2 ∧ R X1 M1))
/-- 32: restore, on both sides -/
def LS_restore (R : Mem → Mem → Prop) : Prop := ∀ (X0 M0 : Mem) (a1 : Int32), R X0 M0 → f_X5_restore a1 X0 (fun r1 X1 => f_X6_restore a1 M0 (fun r2 M1 => r1 = r2 ∧ R X1 M1))
/-- 33: checksum, on both sides -/
def LS_checksum (R : Mem → Mem → Prop) : Prop := ∀ (X0 M0 : Mem), R X0 M0 → f_X5_checksum  X0 (fun r1 X1 => f_X6_checksum  M0 (fun r2 M1 => r1 = r2 ∧ R X1 M1))
set_option maxHeartbeats 4000000 in
set_option maxRecDepth 100000 in
theorem law_begin {p : Program} {l : Launch} {e : Env} {s : State} {m : MethodId} {below : List Frame} {meth : Method} {c : Code} {D : va_G} {cc : Nat → ClassId} {adX adM : Nat → Nat} {b L : Nat} {xs : Nat → Int32} {nc ns : Nat} {R : Mem → Mem → Prop} (C0 : lw_At p s m meth c b L xs) (hK : va_K D vwCl (tyL cc) s) (hN : NW s) (hc : nc ≤ room_1.cells ∧ ns ≤ room_1.slots) {X0 M0 : Mem} {x3 : Int32} (h1 : vp_in (x3 + 1) L) (h2 : vp_in (x3 + 2) L) (h : f_X5_begin (xs (x3 + 1).toNatClampNeg) (xs (x3 + 2).toNatClampNeg) X0 (fun r1 X1 => f_X6_begin (xs (x3 + 1).toNatClampNeg) (xs (x3 + 2).toNatClampNeg) M0 (fun r2 M1 => r1 = r2 ∧ R X1 M1))) {H : Heap} {locs : List Loc} {ls : Array Slot} (hP : va_P D vwCl (wW shX 67 cc adX X0 ++ wW shM 18 cc adM M0) H) (hD : va_D (fun q : Nat => s.heap.size ≤ q) (wW shX 67 cc adX X0 ++ wW shM 18 cc adM M0)) (hS : va_S (fun q : Nat => s.heap.size ≤ q) s.heap H locs) (hl : lv_has ls 4 [(0, .ref b), (1, .ref (adX 0)), (2, .ref (adM 0)), (3, .int x3)])
    (kk : ∀ (X1 M1 : Mem) (H : Heap) (locs : List Loc) (ls : Array Slot), R X1 M1 → va_P D vwCl (wW shX 67 cc adX X1 ++ wW shM 18 cc adM M1) H → va_D (fun q : Nat => s.heap.size ≤ q) (wW shX 67 cc adX X1 ++ wW shM 18 cc adM M1) → va_S (fun q : Nat => s.heap.size ≤ q) s.heap H locs → lv_has ls 4 [(0, .ref b), (1, .ref (adX 0)), (2, .ref (adM 0)), (3, .int x3)] → W p l e room_1 s m #[Value.ref b] below meth c H locs nc ns (lw_Z below #[Value.ref b] s) (F0 m 1053 ls [])) : W p l e room_1 s m #[Value.ref b] below meth c H locs nc ns (lw_Z below #[Value.ref b] s) (F0 m 184 ls []) := by
  obtain ⟨hx, hb, hr, hml, hown, hts0, hX, hbl, hlocks, hgv⟩ := C0
  have hts : ∀ w ∈ wsL_law, w.before #[Value.ref b] s = true := fun w h => hts0 w (wsL_law_in w h)
  have hbA : ¬ (fun q : Nat => s.heap.size ≤ q) b := Nat.not_le.mpr hbl
  refine lv_aload_n hx hb dL_law_184 rfl (lv_at hl 1 rfl) ?_
  refine lv_aload_n hx hb dL_law_185 rfl (lv_at hl 0 rfl) ?_
  refine lv_iload_n hx hb dL_law_186 rfl (lv_at hl 3 rfl) ?_
  refine lv_iconst (v := 1) hx hb dL_law_187 (by decide) ?_
  refine lv_iadd hx hb dL_law_188 ?_
  refine va_sld hx hb hX hbl hbA hS h1 dL_law_189 ?_
  refine lv_aload_n hx hb dL_law_190 rfl (lv_at hl 0 rfl) ?_
  refine lv_iload_n hx hb dL_law_191 rfl (lv_at hl 3 rfl) ?_
  refine lv_iconst (v := 2) hx hb dL_law_192 (by decide) ?_
  refine lv_iadd hx hb dL_law_193 ?_
  refine va_sld hx hb hX hbl hbA hS h2 dL_law_194 ?_
  refine zc_i (zc_runV (sh := shX) (N := 67) (ad := adX) (rs := wW shM 18 cc adM M0) (As := [.int (xs (x3 + 1).toNatClampNeg), .int (xs (x3 + 2).toNatClampNeg)]) (rest := []) ⟨hx, hb, hml, hown, hts⟩ (c_X5_begin l D cc (fun q : Nat => s.heap.size ≤ q) adX (wW shM 18 cc adM M0) (xs (x3 + 1).toNatClampNeg) (xs (x3 + 2).toNatClampNeg) X0 _ h) (cwV 2 hts gL_law_X5_begin rfl rfl rfl (by decide +kernel) ⟨Nat.le_of_ble_eq_true rfl, Nat.le_of_ble_eq_true rfl⟩) kX_0 rfl hK hN hP hD rfl hl.1 rfl (Nat.le_of_ble_eq_true rfl) dL_law_195 hc) hS (fun r1 X1 H locs h hP hD hS => ?_)
  refine lv_aload_n hx hb dL_law_198 rfl (lv_at hl 2 rfl) ?_
  refine lv_aload_n hx hb dL_law_199 rfl (lv_at hl 0 rfl) ?_
  refine lv_iload_n hx hb dL_law_200 rfl (lv_at hl 3 rfl) ?_
  refine lv_iconst (v := 1) hx hb dL_law_201 (by decide) ?_
  refine lv_iadd hx hb dL_law_202 ?_
  refine va_sld hx hb hX hbl hbA hS h1 dL_law_203 ?_
  refine lv_aload_n hx hb dL_law_204 rfl (lv_at hl 0 rfl) ?_
  refine lv_iload_n hx hb dL_law_205 rfl (lv_at hl 3 rfl) ?_
  refine lv_iconst (v := 2) hx hb dL_law_206 (by decide) ?_
  refine lv_iadd hx hb dL_law_207 ?_
  refine va_sld hx hb hX hbl hbA hS h2 dL_law_208 ?_
  have hP := va_P.swap (a := []) hP
  have hD := va_D.swap (a := []) hD
  refine zc_i (zc_runV (sh := shM) (N := 18) (ad := adM) (rs := wW shX 67 cc adX X1) (As := [.int (xs (x3 + 1).toNatClampNeg), .int (xs (x3 + 2).toNatClampNeg)]) (rest := [.int r1]) ⟨hx, hb, hml, hown, hts⟩ (c_X6_begin l D cc (fun q : Nat => s.heap.size ≤ q) adM (wW shX 67 cc adX X1) (xs (x3 + 1).toNatClampNeg) (xs (x3 + 2).toNatClampNeg) M0 _ h) (cwV 2 hts gL_law_X6_begin rfl rfl rfl (by decide +kernel) ⟨Nat.le_of_ble_eq_true rfl, Nat.le_of_ble_eq_true rfl⟩) kM_0 rfl hK hN hP hD rfl hl.1 rfl (Nat.le_of_ble_eq_true rfl) dL_law_209 hc) hS (fun r2 M1 H locs h hP hD hS => ?_)
  have hP := va_P.swap (a := []) hP
  have hD := va_D.swap (a := []) hD
  refine lv_icmp_eq (tgt := 1053) hx hb dL_law_212 (by decide) (fun c9 => ?_) (fun c9 => ?_)
  · exact kk X1 M1 H locs ls h.2 hP hD hS hl
  · exact absurd h.1 c9
set_option maxHeartbeats 4000000 in
set_option maxRecDepth 100000 in
theorem law_setArrow {p : Program} {l : Launch} {e : Env} {s : State} {m : MethodId} {below : List Frame} {meth : Method} {c : Code} {D : va_G} {cc : Nat → ClassId} {adX adM : Nat → Nat} {b L : Nat} {xs : Nat → Int32} {nc ns : Nat} {R : Mem → Mem → Prop} (C0 : lw_At p s m meth c b L xs) (hK : va_K D vwCl (tyL cc) s) (hN : NW s) (hc : nc ≤ room_1.cells ∧ ns ≤ room_1.slots) {X0 M0 : Mem} {x3 : Int32} (h1 : vp_in (x3 + 1) L) (h2 : vp_in (x3 + 2) L) (h3 : vp_in (x3 + 3) L) (h4 : vp_in (x3 + 4) L) (h : f_X5_setArrow (xs (x3 + 1).toNatClampNeg) (xs (x3 + 2).toNatClampNeg) (xs (x3 + 3).toNatClampNeg) (xs (x3 + 4).toNatClampNeg) X0 (fun r1 X1 => f_X6_setArrow (xs (x3 + 1).toNatClampNeg) (xs (x3 + 2).toNatClampNeg) (xs (x3 + 3).toNatClampNeg) (xs (x3 + 4).toNatClampNeg) M0 (fun r2 M1 => r1 = r2 ∧ R X1 M1))) {H : Heap} {locs : List Loc} {ls : Array Slot} (hP : va_P D vwCl (wW shX 67 cc adX X0 ++ wW shM 18 cc adM M0) H) (hD : va_D (fun q : Nat => s.heap.size ≤ q) (wW shX 67 cc adX X0 ++ wW shM 18 cc adM M0)) (hS : va_S (fun q : Nat => s.heap.size ≤ q) s.heap H locs) (hl : lv_has ls 4 [(0, .ref b), (1, .ref (adX 0)), (2, .ref (adM 0)), (3, .int x3)])
    (kk : ∀ (X1 M1 : Mem) (H : Heap) (locs : List Loc) (ls : Array Slot), R X1 M1 → va_P D vwCl (wW shX 67 cc adX X1 ++ wW shM 18 cc adM M1) H → va_D (fun q : Nat => s.heap.size ≤ q) (wW shX 67 cc adX X1 ++ wW shM 18 cc adM M1) → va_S (fun q : Nat => s.heap.size ≤ q) s.heap H locs → lv_has ls 4 [(0, .ref b), (1, .ref (adX 0)), (2, .ref (adM 0)), (3, .int x3)] → W p l e room_1 s m #[Value.ref b] below meth c H locs nc ns (lw_Z below #[Value.ref b] s) (F0 m 1053 ls [])) : W p l e room_1 s m #[Value.ref b] below meth c H locs nc ns (lw_Z below #[Value.ref b] s) (F0 m 217 ls []) := by
  obtain ⟨hx, hb, hr, hml, hown, hts0, hX, hbl, hlocks, hgv⟩ := C0
  have hts : ∀ w ∈ wsL_law, w.before #[Value.ref b] s = true := fun w h => hts0 w (wsL_law_in w h)
  have hbA : ¬ (fun q : Nat => s.heap.size ≤ q) b := Nat.not_le.mpr hbl
  refine lv_aload_n hx hb dL_law_217 rfl (lv_at hl 1 rfl) ?_
  refine lv_aload_n hx hb dL_law_218 rfl (lv_at hl 0 rfl) ?_
  refine lv_iload_n hx hb dL_law_219 rfl (lv_at hl 3 rfl) ?_
  refine lv_iconst (v := 1) hx hb dL_law_220 (by decide) ?_
  refine lv_iadd hx hb dL_law_221 ?_
  refine va_sld hx hb hX hbl hbA hS h1 dL_law_222 ?_
  refine lv_aload_n hx hb dL_law_223 rfl (lv_at hl 0 rfl) ?_
  refine lv_iload_n hx hb dL_law_224 rfl (lv_at hl 3 rfl) ?_
  refine lv_iconst (v := 2) hx hb dL_law_225 (by decide) ?_
  refine lv_iadd hx hb dL_law_226 ?_
  refine va_sld hx hb hX hbl hbA hS h2 dL_law_227 ?_
  refine lv_aload_n hx hb dL_law_228 rfl (lv_at hl 0 rfl) ?_
  refine lv_iload_n hx hb dL_law_229 rfl (lv_at hl 3 rfl) ?_
  refine lv_iconst (v := 3) hx hb dL_law_230 (by decide) ?_
  refine lv_iadd hx hb dL_law_231 ?_
  refine va_sld hx hb hX hbl hbA hS h3 dL_law_232 ?_
  refine lv_aload_n hx hb dL_law_233 rfl (lv_at hl 0 rfl) ?_
  refine lv_iload_n hx hb dL_law_234 rfl (lv_at hl 3 rfl) ?_
  refine lv_iconst (v := 4) hx hb dL_law_235 (by decide) ?_
  refine lv_iadd hx hb dL_law_236 ?_
  refine va_sld hx hb hX hbl hbA hS h4 dL_law_237 ?_
  refine zc_i (zc_runV (sh := shX) (N := 67) (ad := adX) (rs := wW shM 18 cc adM M0) (As := [.int (xs (x3 + 1).toNatClampNeg), .int (xs (x3 + 2).toNatClampNeg), .int (xs (x3 + 3).toNatClampNeg), .int (xs (x3 + 4).toNatClampNeg)]) (rest := []) ⟨hx, hb, hml, hown, hts⟩ (c_X5_setArrow l D cc (fun q : Nat => s.heap.size ≤ q) adX (wW shM 18 cc adM M0) (xs (x3 + 1).toNatClampNeg) (xs (x3 + 2).toNatClampNeg) (xs (x3 + 3).toNatClampNeg) (xs (x3 + 4).toNatClampNeg) X0 _ h) (cwV 4 hts gL_law_X5_setArrow rfl rfl rfl (by decide +kernel) ⟨Nat.le_of_ble_eq_true rfl, Nat.le_of_ble_eq_true rfl⟩) kX_0 rfl hK hN hP hD rfl hl.1 rfl (Nat.le_of_ble_eq_true rfl) dL_law_238 hc) hS (fun r1 X1 H locs h hP hD hS => ?_)
  refine lv_aload_n hx hb dL_law_241 rfl (lv_at hl 2 rfl) ?_
  refine lv_aload_n hx hb dL_law_242 rfl (lv_at hl 0 rfl) ?_
  refine lv_iload_n hx hb dL_law_243 rfl (lv_at hl 3 rfl) ?_
  refine lv_iconst (v := 1) hx hb dL_law_244 (by decide) ?_
  refine lv_iadd hx hb dL_law_245 ?_
  refine va_sld hx hb hX hbl hbA hS h1 dL_law_246 ?_
  refine lv_aload_n hx hb dL_law_247 rfl (lv_at hl 0 rfl) ?_
  refine lv_iload_n hx hb dL_law_248 rfl (lv_at hl 3 rfl) ?_
  refine lv_iconst (v := 2) hx hb dL_law_249 (by decide) ?_
  refine lv_iadd hx hb dL_law_250 ?_
  refine va_sld hx hb hX hbl hbA hS h2 dL_law_251 ?_
  refine lv_aload_n hx hb dL_law_252 rfl (lv_at hl 0 rfl) ?_
  refine lv_iload_n hx hb dL_law_253 rfl (lv_at hl 3 rfl) ?_
  refine lv_iconst (v := 3) hx hb dL_law_254 (by decide) ?_
  refine lv_iadd hx hb dL_law_255 ?_
  refine va_sld hx hb hX hbl hbA hS h3 dL_law_256 ?_
  refine lv_aload_n hx hb dL_law_257 rfl (lv_at hl 0 rfl) ?_
  refine lv_iload_n hx hb dL_law_258 rfl (lv_at hl 3 rfl) ?_
  refine lv_iconst (v := 4) hx hb dL_law_259 (by decide) ?_
  refine lv_iadd hx hb dL_law_260 ?_
  refine va_sld hx hb hX hbl hbA hS h4 dL_law_261 ?_
  have hP := va_P.swap (a := []) hP
  have hD := va_D.swap (a := []) hD
  refine zc_i (zc_runV (sh := shM) (N := 18) (ad := adM) (rs := wW shX 67 cc adX X1) (As := [.int (xs (x3 + 1).toNatClampNeg), .int (xs (x3 + 2).toNatClampNeg), .int (xs (x3 + 3).toNatClampNeg), .int (xs (x3 + 4).toNatClampNeg)]) (rest := [.int r1]) ⟨hx, hb, hml, hown, hts⟩ (c_X6_setArrow l D cc (fun q : Nat => s.heap.size ≤ q) adM (wW shX 67 cc adX X1) (xs (x3 + 1).toNatClampNeg) (xs (x3 + 2).toNatClampNeg) (xs (x3 + 3).toNatClampNeg) (xs (x3 + 4).toNatClampNeg) M0 _ h) (cwV 4 hts gL_law_X6_setArrow rfl rfl rfl (by decide +kernel) ⟨Nat.le_of_ble_eq_true rfl, Nat.le_of_ble_eq_true rfl⟩) kM_0 rfl hK hN hP hD rfl hl.1 rfl (Nat.le_of_ble_eq_true rfl) dL_law_262 hc) hS (fun r2 M1 H locs h hP hD hS => ?_)
  have hP := va_P.swap (a := []) hP
  have hD := va_D.swap (a := []) hD
  refine lv_icmp_eq (tgt := 1053) hx hb dL_law_265 (by decide) (fun c9 => ?_) (fun c9 => ?_)
  · exact kk X1 M1 H locs ls h.2 hP hD hS hl
  · exact absurd h.1 c9
set_option maxHeartbeats 4000000 in
set_option maxRecDepth 100000 in
theorem law_removeArrow {p : Program} {l : Launch} {e : Env} {s : State} {m : MethodId} {below : List Frame} {meth : Method} {c : Code} {D : va_G} {cc : Nat → ClassId} {adX adM : Nat → Nat} {b L : Nat} {xs : Nat → Int32} {nc ns : Nat} {R : Mem → Mem → Prop} (C0 : lw_At p s m meth c b L xs) (hK : va_K D vwCl (tyL cc) s) (hN : NW s) (hc : nc ≤ room_1.cells ∧ ns ≤ room_1.slots) {X0 M0 : Mem} {x3 : Int32} (h1 : vp_in (x3 + 1) L) (h2 : vp_in (x3 + 2) L) (h : f_X5_removeArrow (xs (x3 + 1).toNatClampNeg) (xs (x3 + 2).toNatClampNeg) X0 (fun r1 X1 => f_X6_removeArrow (xs (x3 + 1).toNatClampNeg) (xs (x3 + 2).toNatClampNeg) M0 (fun r2 M1 => r1 = r2 ∧ R X1 M1))) {H : Heap} {locs : List Loc} {ls : Array Slot} (hP : va_P D vwCl (wW shX 67 cc adX X0 ++ wW shM 18 cc adM M0) H) (hD : va_D (fun q : Nat => s.heap.size ≤ q) (wW shX 67 cc adX X0 ++ wW shM 18 cc adM M0)) (hS : va_S (fun q : Nat => s.heap.size ≤ q) s.heap H locs) (hl : lv_has ls 4 [(0, .ref b), (1, .ref (adX 0)), (2, .ref (adM 0)), (3, .int x3)])
    (kk : ∀ (X1 M1 : Mem) (H : Heap) (locs : List Loc) (ls : Array Slot), R X1 M1 → va_P D vwCl (wW shX 67 cc adX X1 ++ wW shM 18 cc adM M1) H → va_D (fun q : Nat => s.heap.size ≤ q) (wW shX 67 cc adX X1 ++ wW shM 18 cc adM M1) → va_S (fun q : Nat => s.heap.size ≤ q) s.heap H locs → lv_has ls 4 [(0, .ref b), (1, .ref (adX 0)), (2, .ref (adM 0)), (3, .int x3)] → W p l e room_1 s m #[Value.ref b] below meth c H locs nc ns (lw_Z below #[Value.ref b] s) (F0 m 1053 ls [])) : W p l e room_1 s m #[Value.ref b] below meth c H locs nc ns (lw_Z below #[Value.ref b] s) (F0 m 270 ls []) := by
  obtain ⟨hx, hb, hr, hml, hown, hts0, hX, hbl, hlocks, hgv⟩ := C0
  have hts : ∀ w ∈ wsL_law, w.before #[Value.ref b] s = true := fun w h => hts0 w (wsL_law_in w h)
  have hbA : ¬ (fun q : Nat => s.heap.size ≤ q) b := Nat.not_le.mpr hbl
  refine lv_aload_n hx hb dL_law_270 rfl (lv_at hl 1 rfl) ?_
  refine lv_aload_n hx hb dL_law_271 rfl (lv_at hl 0 rfl) ?_
  refine lv_iload_n hx hb dL_law_272 rfl (lv_at hl 3 rfl) ?_
  refine lv_iconst (v := 1) hx hb dL_law_273 (by decide) ?_
  refine lv_iadd hx hb dL_law_274 ?_
  refine va_sld hx hb hX hbl hbA hS h1 dL_law_275 ?_
  refine lv_aload_n hx hb dL_law_276 rfl (lv_at hl 0 rfl) ?_
  refine lv_iload_n hx hb dL_law_277 rfl (lv_at hl 3 rfl) ?_
  refine lv_iconst (v := 2) hx hb dL_law_278 (by decide) ?_
  refine lv_iadd hx hb dL_law_279 ?_
  refine va_sld hx hb hX hbl hbA hS h2 dL_law_280 ?_
  refine zc_i (zc_runV (sh := shX) (N := 67) (ad := adX) (rs := wW shM 18 cc adM M0) (As := [.int (xs (x3 + 1).toNatClampNeg), .int (xs (x3 + 2).toNatClampNeg)]) (rest := []) ⟨hx, hb, hml, hown, hts⟩ (c_X5_removeArrow l D cc (fun q : Nat => s.heap.size ≤ q) adX (wW shM 18 cc adM M0) (xs (x3 + 1).toNatClampNeg) (xs (x3 + 2).toNatClampNeg) X0 _ h) (cwV 2 hts gL_law_X5_removeArrow rfl rfl rfl (by decide +kernel) ⟨Nat.le_of_ble_eq_true rfl, Nat.le_of_ble_eq_true rfl⟩) kX_0 rfl hK hN hP hD rfl hl.1 rfl (Nat.le_of_ble_eq_true rfl) dL_law_281 hc) hS (fun r1 X1 H locs h hP hD hS => ?_)
  refine lv_aload_n hx hb dL_law_284 rfl (lv_at hl 2 rfl) ?_
  refine lv_aload_n hx hb dL_law_285 rfl (lv_at hl 0 rfl) ?_
  refine lv_iload_n hx hb dL_law_286 rfl (lv_at hl 3 rfl) ?_
  refine lv_iconst (v := 1) hx hb dL_law_287 (by decide) ?_
  refine lv_iadd hx hb dL_law_288 ?_
  refine va_sld hx hb hX hbl hbA hS h1 dL_law_289 ?_
  refine lv_aload_n hx hb dL_law_290 rfl (lv_at hl 0 rfl) ?_
  refine lv_iload_n hx hb dL_law_291 rfl (lv_at hl 3 rfl) ?_
  refine lv_iconst (v := 2) hx hb dL_law_292 (by decide) ?_
  refine lv_iadd hx hb dL_law_293 ?_
  refine va_sld hx hb hX hbl hbA hS h2 dL_law_294 ?_
  have hP := va_P.swap (a := []) hP
  have hD := va_D.swap (a := []) hD
  refine zc_i (zc_runV (sh := shM) (N := 18) (ad := adM) (rs := wW shX 67 cc adX X1) (As := [.int (xs (x3 + 1).toNatClampNeg), .int (xs (x3 + 2).toNatClampNeg)]) (rest := [.int r1]) ⟨hx, hb, hml, hown, hts⟩ (c_X6_removeArrow l D cc (fun q : Nat => s.heap.size ≤ q) adM (wW shX 67 cc adX X1) (xs (x3 + 1).toNatClampNeg) (xs (x3 + 2).toNatClampNeg) M0 _ h) (cwV 2 hts gL_law_X6_removeArrow rfl rfl rfl (by decide +kernel) ⟨Nat.le_of_ble_eq_true rfl, Nat.le_of_ble_eq_true rfl⟩) kM_0 rfl hK hN hP hD rfl hl.1 rfl (Nat.le_of_ble_eq_true rfl) dL_law_295 hc) hS (fun r2 M1 H locs h hP hD hS => ?_)
  have hP := va_P.swap (a := []) hP
  have hD := va_D.swap (a := []) hD
  refine lv_icmp_eq (tgt := 1053) hx hb dL_law_298 (by decide) (fun c9 => ?_) (fun c9 => ?_)
  · exact kk X1 M1 H locs ls h.2 hP hD hS hl
  · exact absurd h.1 c9
set_option maxHeartbeats 4000000 in
set_option maxRecDepth 100000 in
theorem law_addFeature {p : Program} {l : Launch} {e : Env} {s : State} {m : MethodId} {below : List Frame} {meth : Method} {c : Code} {D : va_G} {cc : Nat → ClassId} {adX adM : Nat → Nat} {b L : Nat} {xs : Nat → Int32} {nc ns : Nat} {R : Mem → Mem → Prop} (C0 : lw_At p s m meth c b L xs) (hK : va_K D vwCl (tyL cc) s) (hN : NW s) (hc : nc ≤ room_1.cells ∧ ns ≤ room_1.slots) {X0 M0 : Mem} {x3 : Int32}  (h : f_X5_addFeature  X0 (fun r1 X1 => f_X6_addFeature  M0 (fun r2 M1 => r1 = r2 ∧ R X1 M1))) {H : Heap} {locs : List Loc} {ls : Array Slot} (hP : va_P D vwCl (wW shX 67 cc adX X0 ++ wW shM 18 cc adM M0) H) (hD : va_D (fun q : Nat => s.heap.size ≤ q) (wW shX 67 cc adX X0 ++ wW shM 18 cc adM M0)) (hS : va_S (fun q : Nat => s.heap.size ≤ q) s.heap H locs) (hl : lv_has ls 4 [(0, .ref b), (1, .ref (adX 0)), (2, .ref (adM 0)), (3, .int x3)])
    (kk : ∀ (X1 M1 : Mem) (H : Heap) (locs : List Loc) (ls : Array Slot), R X1 M1 → va_P D vwCl (wW shX 67 cc adX X1 ++ wW shM 18 cc adM M1) H → va_D (fun q : Nat => s.heap.size ≤ q) (wW shX 67 cc adX X1 ++ wW shM 18 cc adM M1) → va_S (fun q : Nat => s.heap.size ≤ q) s.heap H locs → lv_has ls 4 [(0, .ref b), (1, .ref (adX 0)), (2, .ref (adM 0)), (3, .int x3)] → W p l e room_1 s m #[Value.ref b] below meth c H locs nc ns (lw_Z below #[Value.ref b] s) (F0 m 1053 ls [])) : W p l e room_1 s m #[Value.ref b] below meth c H locs nc ns (lw_Z below #[Value.ref b] s) (F0 m 303 ls []) := by
  obtain ⟨hx, hb, hr, hml, hown, hts0, hX, hbl, hlocks, hgv⟩ := C0
  have hts : ∀ w ∈ wsL_law, w.before #[Value.ref b] s = true := fun w h => hts0 w (wsL_law_in w h)
  have hbA : ¬ (fun q : Nat => s.heap.size ≤ q) b := Nat.not_le.mpr hbl
  refine lv_aload_n hx hb dL_law_303 rfl (lv_at hl 1 rfl) ?_
  refine zc_i (zc_runV (sh := shX) (N := 67) (ad := adX) (rs := wW shM 18 cc adM M0) (As := []) (rest := []) ⟨hx, hb, hml, hown, hts⟩ (c_X5_addFeature l D cc (fun q : Nat => s.heap.size ≤ q) adX (wW shM 18 cc adM M0)  X0 _ h) (cwV 0 hts gL_law_X5_addFeature rfl rfl rfl (by decide +kernel) ⟨Nat.le_of_ble_eq_true rfl, Nat.le_of_ble_eq_true rfl⟩) kX_0 rfl hK hN hP hD rfl hl.1 rfl (Nat.le_of_ble_eq_true rfl) dL_law_304 hc) hS (fun r1 X1 H locs h hP hD hS => ?_)
  refine lv_aload_n hx hb dL_law_307 rfl (lv_at hl 2 rfl) ?_
  have hP := va_P.swap (a := []) hP
  have hD := va_D.swap (a := []) hD
  refine zc_i (zc_runV (sh := shM) (N := 18) (ad := adM) (rs := wW shX 67 cc adX X1) (As := []) (rest := [.int r1]) ⟨hx, hb, hml, hown, hts⟩ (c_X6_addFeature l D cc (fun q : Nat => s.heap.size ≤ q) adM (wW shX 67 cc adX X1)  M0 _ h) (cwV 0 hts gL_law_X6_addFeature rfl rfl rfl (by decide +kernel) ⟨Nat.le_of_ble_eq_true rfl, Nat.le_of_ble_eq_true rfl⟩) kM_0 rfl hK hN hP hD rfl hl.1 rfl (Nat.le_of_ble_eq_true rfl) dL_law_308 hc) hS (fun r2 M1 H locs h hP hD hS => ?_)
  have hP := va_P.swap (a := []) hP
  have hD := va_D.swap (a := []) hD
  refine lv_icmp_eq (tgt := 1053) hx hb dL_law_311 (by decide) (fun c9 => ?_) (fun c9 => ?_)
  · exact kk X1 M1 H locs ls h.2 hP hD hS hl
  · exact absurd h.1 c9
set_option maxHeartbeats 4000000 in
set_option maxRecDepth 100000 in
theorem law_change {p : Program} {l : Launch} {e : Env} {s : State} {m : MethodId} {below : List Frame} {meth : Method} {c : Code} {D : va_G} {cc : Nat → ClassId} {adX adM : Nat → Nat} {b L : Nat} {xs : Nat → Int32} {nc ns : Nat} {R : Mem → Mem → Prop} (C0 : lw_At p s m meth c b L xs) (hK : va_K D vwCl (tyL cc) s) (hN : NW s) (hc : nc ≤ room_1.cells ∧ ns ≤ room_1.slots) {X0 M0 : Mem} {x3 : Int32} (h1 : vp_in (x3 + 1) L) (h2 : vp_in (x3 + 2) L) (h3 : vp_in (x3 + 3) L) (h4 : vp_in (x3 + 4) L) (h5 : vp_in (x3 + 5) L) (h : f_X5_change (xs (x3 + 1).toNatClampNeg) (xs (x3 + 2).toNatClampNeg) (xs (x3 + 3).toNatClampNeg) (xs (x3 + 4).toNatClampNeg) (xs (x3 + 5).toNatClampNeg) X0 (fun r1 X1 => f_X6_change (xs (x3 + 1).toNatClampNeg) (xs (x3 + 2).toNatClampNeg) (xs (x3 + 3).toNatClampNeg) (xs (x3 + 4).toNatClampNeg) (xs (x3 + 5).toNatClampNeg) M0 (fun r2 M1 => r1 = r2 ∧ R X1 M1))) {H : Heap} {locs : List Loc} {ls : Array Slot} (hP : va_P D vwCl (wW shX 67 cc adX X0 ++ wW shM 18 cc adM M0) H) (hD : va_D (fun q : Nat => s.heap.size ≤ q) (wW shX 67 cc adX X0 ++ wW shM 18 cc adM M0)) (hS : va_S (fun q : Nat => s.heap.size ≤ q) s.heap H locs) (hl : lv_has ls 4 [(0, .ref b), (1, .ref (adX 0)), (2, .ref (adM 0)), (3, .int x3)])
    (kk : ∀ (X1 M1 : Mem) (H : Heap) (locs : List Loc) (ls : Array Slot), R X1 M1 → va_P D vwCl (wW shX 67 cc adX X1 ++ wW shM 18 cc adM M1) H → va_D (fun q : Nat => s.heap.size ≤ q) (wW shX 67 cc adX X1 ++ wW shM 18 cc adM M1) → va_S (fun q : Nat => s.heap.size ≤ q) s.heap H locs → lv_has ls 4 [(0, .ref b), (1, .ref (adX 0)), (2, .ref (adM 0)), (3, .int x3)] → W p l e room_1 s m #[Value.ref b] below meth c H locs nc ns (lw_Z below #[Value.ref b] s) (F0 m 1053 ls [])) : W p l e room_1 s m #[Value.ref b] below meth c H locs nc ns (lw_Z below #[Value.ref b] s) (F0 m 316 ls []) := by
  obtain ⟨hx, hb, hr, hml, hown, hts0, hX, hbl, hlocks, hgv⟩ := C0
  have hts : ∀ w ∈ wsL_law, w.before #[Value.ref b] s = true := fun w h => hts0 w (wsL_law_in w h)
  have hbA : ¬ (fun q : Nat => s.heap.size ≤ q) b := Nat.not_le.mpr hbl
  refine lv_aload_n hx hb dL_law_316 rfl (lv_at hl 1 rfl) ?_
  refine lv_aload_n hx hb dL_law_317 rfl (lv_at hl 0 rfl) ?_
  refine lv_iload_n hx hb dL_law_318 rfl (lv_at hl 3 rfl) ?_
  refine lv_iconst (v := 1) hx hb dL_law_319 (by decide) ?_
  refine lv_iadd hx hb dL_law_320 ?_
  refine va_sld hx hb hX hbl hbA hS h1 dL_law_321 ?_
  refine lv_aload_n hx hb dL_law_322 rfl (lv_at hl 0 rfl) ?_
  refine lv_iload_n hx hb dL_law_323 rfl (lv_at hl 3 rfl) ?_
  refine lv_iconst (v := 2) hx hb dL_law_324 (by decide) ?_
  refine lv_iadd hx hb dL_law_325 ?_
  refine va_sld hx hb hX hbl hbA hS h2 dL_law_326 ?_
  refine lv_aload_n hx hb dL_law_327 rfl (lv_at hl 0 rfl) ?_
  refine lv_iload_n hx hb dL_law_328 rfl (lv_at hl 3 rfl) ?_
  refine lv_iconst (v := 3) hx hb dL_law_329 (by decide) ?_
  refine lv_iadd hx hb dL_law_330 ?_
  refine va_sld hx hb hX hbl hbA hS h3 dL_law_331 ?_
  refine lv_aload_n hx hb dL_law_332 rfl (lv_at hl 0 rfl) ?_
  refine lv_iload_n hx hb dL_law_333 rfl (lv_at hl 3 rfl) ?_
  refine lv_iconst (v := 4) hx hb dL_law_334 (by decide) ?_
  refine lv_iadd hx hb dL_law_335 ?_
  refine va_sld hx hb hX hbl hbA hS h4 dL_law_336 ?_
  refine lv_aload_n hx hb dL_law_337 rfl (lv_at hl 0 rfl) ?_
  refine lv_iload_n hx hb dL_law_338 rfl (lv_at hl 3 rfl) ?_
  refine lv_iconst (v := 5) hx hb dL_law_339 (by decide) ?_
  refine lv_iadd hx hb dL_law_340 ?_
  refine va_sld hx hb hX hbl hbA hS h5 dL_law_341 ?_
  refine zc_i (zc_runV (sh := shX) (N := 67) (ad := adX) (rs := wW shM 18 cc adM M0) (As := [.int (xs (x3 + 1).toNatClampNeg), .int (xs (x3 + 2).toNatClampNeg), .int (xs (x3 + 3).toNatClampNeg), .int (xs (x3 + 4).toNatClampNeg), .int (xs (x3 + 5).toNatClampNeg)]) (rest := []) ⟨hx, hb, hml, hown, hts⟩ (c_X5_change l D cc (fun q : Nat => s.heap.size ≤ q) adX (wW shM 18 cc adM M0) (xs (x3 + 1).toNatClampNeg) (xs (x3 + 2).toNatClampNeg) (xs (x3 + 3).toNatClampNeg) (xs (x3 + 4).toNatClampNeg) (xs (x3 + 5).toNatClampNeg) X0 _ h) (cwV 5 hts gL_law_X5_change rfl rfl rfl (by decide +kernel) ⟨Nat.le_of_ble_eq_true rfl, Nat.le_of_ble_eq_true rfl⟩) kX_0 rfl hK hN hP hD rfl hl.1 rfl (Nat.le_of_ble_eq_true rfl) dL_law_342 hc) hS (fun r1 X1 H locs h hP hD hS => ?_)
  refine lv_aload_n hx hb dL_law_345 rfl (lv_at hl 2 rfl) ?_
  refine lv_aload_n hx hb dL_law_346 rfl (lv_at hl 0 rfl) ?_
  refine lv_iload_n hx hb dL_law_347 rfl (lv_at hl 3 rfl) ?_
  refine lv_iconst (v := 1) hx hb dL_law_348 (by decide) ?_
  refine lv_iadd hx hb dL_law_349 ?_
  refine va_sld hx hb hX hbl hbA hS h1 dL_law_350 ?_
  refine lv_aload_n hx hb dL_law_351 rfl (lv_at hl 0 rfl) ?_
  refine lv_iload_n hx hb dL_law_352 rfl (lv_at hl 3 rfl) ?_
  refine lv_iconst (v := 2) hx hb dL_law_353 (by decide) ?_
  refine lv_iadd hx hb dL_law_354 ?_
  refine va_sld hx hb hX hbl hbA hS h2 dL_law_355 ?_
  refine lv_aload_n hx hb dL_law_356 rfl (lv_at hl 0 rfl) ?_
  refine lv_iload_n hx hb dL_law_357 rfl (lv_at hl 3 rfl) ?_
  refine lv_iconst (v := 3) hx hb dL_law_358 (by decide) ?_
  refine lv_iadd hx hb dL_law_359 ?_
  refine va_sld hx hb hX hbl hbA hS h3 dL_law_360 ?_
  refine lv_aload_n hx hb dL_law_361 rfl (lv_at hl 0 rfl) ?_
  refine lv_iload_n hx hb dL_law_362 rfl (lv_at hl 3 rfl) ?_
  refine lv_iconst (v := 4) hx hb dL_law_363 (by decide) ?_
  refine lv_iadd hx hb dL_law_364 ?_
  refine va_sld hx hb hX hbl hbA hS h4 dL_law_365 ?_
  refine lv_aload_n hx hb dL_law_366 rfl (lv_at hl 0 rfl) ?_
  refine lv_iload_n hx hb dL_law_367 rfl (lv_at hl 3 rfl) ?_
  refine lv_iconst (v := 5) hx hb dL_law_368 (by decide) ?_
  refine lv_iadd hx hb dL_law_369 ?_
  refine va_sld hx hb hX hbl hbA hS h5 dL_law_370 ?_
  have hP := va_P.swap (a := []) hP
  have hD := va_D.swap (a := []) hD
  refine zc_i (zc_runV (sh := shM) (N := 18) (ad := adM) (rs := wW shX 67 cc adX X1) (As := [.int (xs (x3 + 1).toNatClampNeg), .int (xs (x3 + 2).toNatClampNeg), .int (xs (x3 + 3).toNatClampNeg), .int (xs (x3 + 4).toNatClampNeg), .int (xs (x3 + 5).toNatClampNeg)]) (rest := [.int r1]) ⟨hx, hb, hml, hown, hts⟩ (c_X6_change l D cc (fun q : Nat => s.heap.size ≤ q) adM (wW shX 67 cc adX X1) (xs (x3 + 1).toNatClampNeg) (xs (x3 + 2).toNatClampNeg) (xs (x3 + 3).toNatClampNeg) (xs (x3 + 4).toNatClampNeg) (xs (x3 + 5).toNatClampNeg) M0 _ h) (cwV 5 hts gL_law_X6_change rfl rfl rfl (by decide +kernel) ⟨Nat.le_of_ble_eq_true rfl, Nat.le_of_ble_eq_true rfl⟩) kM_0 rfl hK hN hP hD rfl hl.1 rfl (Nat.le_of_ble_eq_true rfl) dL_law_371 hc) hS (fun r2 M1 H locs h hP hD hS => ?_)
  have hP := va_P.swap (a := []) hP
  have hD := va_D.swap (a := []) hD
  refine lv_icmp_eq (tgt := 1053) hx hb dL_law_374 (by decide) (fun c9 => ?_) (fun c9 => ?_)
  · exact kk X1 M1 H locs ls h.2 hP hD hS hl
  · exact absurd h.1 c9
set_option maxHeartbeats 4000000 in
set_option maxRecDepth 100000 in
theorem law_changeToNone {p : Program} {l : Launch} {e : Env} {s : State} {m : MethodId} {below : List Frame} {meth : Method} {c : Code} {D : va_G} {cc : Nat → ClassId} {adX adM : Nat → Nat} {b L : Nat} {xs : Nat → Int32} {nc ns : Nat} {R : Mem → Mem → Prop} (C0 : lw_At p s m meth c b L xs) (hK : va_K D vwCl (tyL cc) s) (hN : NW s) (hc : nc ≤ room_1.cells ∧ ns ≤ room_1.slots) {X0 M0 : Mem} {x3 : Int32} (h1 : vp_in (x3 + 1) L) (h2 : vp_in (x3 + 2) L) (h3 : vp_in (x3 + 3) L) (h : f_X5_changeToNone (xs (x3 + 1).toNatClampNeg) (xs (x3 + 2).toNatClampNeg) (xs (x3 + 3).toNatClampNeg) X0 (fun r1 X1 => f_X6_changeToNone (xs (x3 + 1).toNatClampNeg) (xs (x3 + 2).toNatClampNeg) (xs (x3 + 3).toNatClampNeg) M0 (fun r2 M1 => r1 = r2 ∧ R X1 M1))) {H : Heap} {locs : List Loc} {ls : Array Slot} (hP : va_P D vwCl (wW shX 67 cc adX X0 ++ wW shM 18 cc adM M0) H) (hD : va_D (fun q : Nat => s.heap.size ≤ q) (wW shX 67 cc adX X0 ++ wW shM 18 cc adM M0)) (hS : va_S (fun q : Nat => s.heap.size ≤ q) s.heap H locs) (hl : lv_has ls 4 [(0, .ref b), (1, .ref (adX 0)), (2, .ref (adM 0)), (3, .int x3)])
    (kk : ∀ (X1 M1 : Mem) (H : Heap) (locs : List Loc) (ls : Array Slot), R X1 M1 → va_P D vwCl (wW shX 67 cc adX X1 ++ wW shM 18 cc adM M1) H → va_D (fun q : Nat => s.heap.size ≤ q) (wW shX 67 cc adX X1 ++ wW shM 18 cc adM M1) → va_S (fun q : Nat => s.heap.size ≤ q) s.heap H locs → lv_has ls 4 [(0, .ref b), (1, .ref (adX 0)), (2, .ref (adM 0)), (3, .int x3)] → W p l e room_1 s m #[Value.ref b] below meth c H locs nc ns (lw_Z below #[Value.ref b] s) (F0 m 1053 ls [])) : W p l e room_1 s m #[Value.ref b] below meth c H locs nc ns (lw_Z below #[Value.ref b] s) (F0 m 379 ls []) := by
  obtain ⟨hx, hb, hr, hml, hown, hts0, hX, hbl, hlocks, hgv⟩ := C0
  have hts : ∀ w ∈ wsL_law, w.before #[Value.ref b] s = true := fun w h => hts0 w (wsL_law_in w h)
  have hbA : ¬ (fun q : Nat => s.heap.size ≤ q) b := Nat.not_le.mpr hbl
  refine lv_aload_n hx hb dL_law_379 rfl (lv_at hl 1 rfl) ?_
  refine lv_aload_n hx hb dL_law_380 rfl (lv_at hl 0 rfl) ?_
  refine lv_iload_n hx hb dL_law_381 rfl (lv_at hl 3 rfl) ?_
  refine lv_iconst (v := 1) hx hb dL_law_382 (by decide) ?_
  refine lv_iadd hx hb dL_law_383 ?_
  refine va_sld hx hb hX hbl hbA hS h1 dL_law_384 ?_
  refine lv_aload_n hx hb dL_law_385 rfl (lv_at hl 0 rfl) ?_
  refine lv_iload_n hx hb dL_law_386 rfl (lv_at hl 3 rfl) ?_
  refine lv_iconst (v := 2) hx hb dL_law_387 (by decide) ?_
  refine lv_iadd hx hb dL_law_388 ?_
  refine va_sld hx hb hX hbl hbA hS h2 dL_law_389 ?_
  refine lv_aload_n hx hb dL_law_390 rfl (lv_at hl 0 rfl) ?_
  refine lv_iload_n hx hb dL_law_391 rfl (lv_at hl 3 rfl) ?_
  refine lv_iconst (v := 3) hx hb dL_law_392 (by decide) ?_
  refine lv_iadd hx hb dL_law_393 ?_
  refine va_sld hx hb hX hbl hbA hS h3 dL_law_394 ?_
  refine zc_i (zc_runV (sh := shX) (N := 67) (ad := adX) (rs := wW shM 18 cc adM M0) (As := [.int (xs (x3 + 1).toNatClampNeg), .int (xs (x3 + 2).toNatClampNeg), .int (xs (x3 + 3).toNatClampNeg)]) (rest := []) ⟨hx, hb, hml, hown, hts⟩ (c_X5_changeToNone l D cc (fun q : Nat => s.heap.size ≤ q) adX (wW shM 18 cc adM M0) (xs (x3 + 1).toNatClampNeg) (xs (x3 + 2).toNatClampNeg) (xs (x3 + 3).toNatClampNeg) X0 _ h) (cwV 3 hts gL_law_X5_changeToNone rfl rfl rfl (by decide +kernel) ⟨Nat.le_of_ble_eq_true rfl, Nat.le_of_ble_eq_true rfl⟩) kX_0 rfl hK hN hP hD rfl hl.1 rfl (Nat.le_of_ble_eq_true rfl) dL_law_395 hc) hS (fun r1 X1 H locs h hP hD hS => ?_)
  refine lv_aload_n hx hb dL_law_398 rfl (lv_at hl 2 rfl) ?_
  refine lv_aload_n hx hb dL_law_399 rfl (lv_at hl 0 rfl) ?_
  refine lv_iload_n hx hb dL_law_400 rfl (lv_at hl 3 rfl) ?_
  refine lv_iconst (v := 1) hx hb dL_law_401 (by decide) ?_
  refine lv_iadd hx hb dL_law_402 ?_
  refine va_sld hx hb hX hbl hbA hS h1 dL_law_403 ?_
  refine lv_aload_n hx hb dL_law_404 rfl (lv_at hl 0 rfl) ?_
  refine lv_iload_n hx hb dL_law_405 rfl (lv_at hl 3 rfl) ?_
  refine lv_iconst (v := 2) hx hb dL_law_406 (by decide) ?_
  refine lv_iadd hx hb dL_law_407 ?_
  refine va_sld hx hb hX hbl hbA hS h2 dL_law_408 ?_
  refine lv_aload_n hx hb dL_law_409 rfl (lv_at hl 0 rfl) ?_
  refine lv_iload_n hx hb dL_law_410 rfl (lv_at hl 3 rfl) ?_
  refine lv_iconst (v := 3) hx hb dL_law_411 (by decide) ?_
  refine lv_iadd hx hb dL_law_412 ?_
  refine va_sld hx hb hX hbl hbA hS h3 dL_law_413 ?_
  have hP := va_P.swap (a := []) hP
  have hD := va_D.swap (a := []) hD
  refine zc_i (zc_runV (sh := shM) (N := 18) (ad := adM) (rs := wW shX 67 cc adX X1) (As := [.int (xs (x3 + 1).toNatClampNeg), .int (xs (x3 + 2).toNatClampNeg), .int (xs (x3 + 3).toNatClampNeg)]) (rest := [.int r1]) ⟨hx, hb, hml, hown, hts⟩ (c_X6_changeToNone l D cc (fun q : Nat => s.heap.size ≤ q) adM (wW shX 67 cc adX X1) (xs (x3 + 1).toNatClampNeg) (xs (x3 + 2).toNatClampNeg) (xs (x3 + 3).toNatClampNeg) M0 _ h) (cwV 3 hts gL_law_X6_changeToNone rfl rfl rfl (by decide +kernel) ⟨Nat.le_of_ble_eq_true rfl, Nat.le_of_ble_eq_true rfl⟩) kM_0 rfl hK hN hP hD rfl hl.1 rfl (Nat.le_of_ble_eq_true rfl) dL_law_414 hc) hS (fun r2 M1 H locs h hP hD hS => ?_)
  have hP := va_P.swap (a := []) hP
  have hD := va_D.swap (a := []) hD
  refine lv_icmp_eq (tgt := 1053) hx hb dL_law_417 (by decide) (fun c9 => ?_) (fun c9 => ?_)
  · exact kk X1 M1 H locs ls h.2 hP hD hS hl
  · exact absurd h.1 c9
set_option maxHeartbeats 4000000 in
set_option maxRecDepth 100000 in
theorem law_unchange {p : Program} {l : Launch} {e : Env} {s : State} {m : MethodId} {below : List Frame} {meth : Method} {c : Code} {D : va_G} {cc : Nat → ClassId} {adX adM : Nat → Nat} {b L : Nat} {xs : Nat → Int32} {nc ns : Nat} {R : Mem → Mem → Prop} (C0 : lw_At p s m meth c b L xs) (hK : va_K D vwCl (tyL cc) s) (hN : NW s) (hc : nc ≤ room_1.cells ∧ ns ≤ room_1.slots) {X0 M0 : Mem} {x3 : Int32} (h1 : vp_in (x3 + 1) L) (h2 : vp_in (x3 + 2) L) (h3 : vp_in (x3 + 3) L) (h : f_X5_unchange (xs (x3 + 1).toNatClampNeg) (xs (x3 + 2).toNatClampNeg) (xs (x3 + 3).toNatClampNeg) X0 (fun r1 X1 => f_X6_unchange (xs (x3 + 1).toNatClampNeg) (xs (x3 + 2).toNatClampNeg) (xs (x3 + 3).toNatClampNeg) M0 (fun r2 M1 => r1 = r2 ∧ R X1 M1))) {H : Heap} {locs : List Loc} {ls : Array Slot} (hP : va_P D vwCl (wW shX 67 cc adX X0 ++ wW shM 18 cc adM M0) H) (hD : va_D (fun q : Nat => s.heap.size ≤ q) (wW shX 67 cc adX X0 ++ wW shM 18 cc adM M0)) (hS : va_S (fun q : Nat => s.heap.size ≤ q) s.heap H locs) (hl : lv_has ls 4 [(0, .ref b), (1, .ref (adX 0)), (2, .ref (adM 0)), (3, .int x3)])
    (kk : ∀ (X1 M1 : Mem) (H : Heap) (locs : List Loc) (ls : Array Slot), R X1 M1 → va_P D vwCl (wW shX 67 cc adX X1 ++ wW shM 18 cc adM M1) H → va_D (fun q : Nat => s.heap.size ≤ q) (wW shX 67 cc adX X1 ++ wW shM 18 cc adM M1) → va_S (fun q : Nat => s.heap.size ≤ q) s.heap H locs → lv_has ls 4 [(0, .ref b), (1, .ref (adX 0)), (2, .ref (adM 0)), (3, .int x3)] → W p l e room_1 s m #[Value.ref b] below meth c H locs nc ns (lw_Z below #[Value.ref b] s) (F0 m 1053 ls [])) : W p l e room_1 s m #[Value.ref b] below meth c H locs nc ns (lw_Z below #[Value.ref b] s) (F0 m 422 ls []) := by
  obtain ⟨hx, hb, hr, hml, hown, hts0, hX, hbl, hlocks, hgv⟩ := C0
  have hts : ∀ w ∈ wsL_law, w.before #[Value.ref b] s = true := fun w h => hts0 w (wsL_law_in w h)
  have hbA : ¬ (fun q : Nat => s.heap.size ≤ q) b := Nat.not_le.mpr hbl
  refine lv_aload_n hx hb dL_law_422 rfl (lv_at hl 1 rfl) ?_
  refine lv_aload_n hx hb dL_law_423 rfl (lv_at hl 0 rfl) ?_
  refine lv_iload_n hx hb dL_law_424 rfl (lv_at hl 3 rfl) ?_
  refine lv_iconst (v := 1) hx hb dL_law_425 (by decide) ?_
  refine lv_iadd hx hb dL_law_426 ?_
  refine va_sld hx hb hX hbl hbA hS h1 dL_law_427 ?_
  refine lv_aload_n hx hb dL_law_428 rfl (lv_at hl 0 rfl) ?_
  refine lv_iload_n hx hb dL_law_429 rfl (lv_at hl 3 rfl) ?_
  refine lv_iconst (v := 2) hx hb dL_law_430 (by decide) ?_
  refine lv_iadd hx hb dL_law_431 ?_
  refine va_sld hx hb hX hbl hbA hS h2 dL_law_432 ?_
  refine lv_aload_n hx hb dL_law_433 rfl (lv_at hl 0 rfl) ?_
  refine lv_iload_n hx hb dL_law_434 rfl (lv_at hl 3 rfl) ?_
  refine lv_iconst (v := 3) hx hb dL_law_435 (by decide) ?_
  refine lv_iadd hx hb dL_law_436 ?_
  refine va_sld hx hb hX hbl hbA hS h3 dL_law_437 ?_
  refine zc_i (zc_runV (sh := shX) (N := 67) (ad := adX) (rs := wW shM 18 cc adM M0) (As := [.int (xs (x3 + 1).toNatClampNeg), .int (xs (x3 + 2).toNatClampNeg), .int (xs (x3 + 3).toNatClampNeg)]) (rest := []) ⟨hx, hb, hml, hown, hts⟩ (c_X5_unchange l D cc (fun q : Nat => s.heap.size ≤ q) adX (wW shM 18 cc adM M0) (xs (x3 + 1).toNatClampNeg) (xs (x3 + 2).toNatClampNeg) (xs (x3 + 3).toNatClampNeg) X0 _ h) (cwV 3 hts gL_law_X5_unchange rfl rfl rfl (by decide +kernel) ⟨Nat.le_of_ble_eq_true rfl, Nat.le_of_ble_eq_true rfl⟩) kX_0 rfl hK hN hP hD rfl hl.1 rfl (Nat.le_of_ble_eq_true rfl) dL_law_438 hc) hS (fun r1 X1 H locs h hP hD hS => ?_)
  refine lv_aload_n hx hb dL_law_441 rfl (lv_at hl 2 rfl) ?_
  refine lv_aload_n hx hb dL_law_442 rfl (lv_at hl 0 rfl) ?_
  refine lv_iload_n hx hb dL_law_443 rfl (lv_at hl 3 rfl) ?_
  refine lv_iconst (v := 1) hx hb dL_law_444 (by decide) ?_
  refine lv_iadd hx hb dL_law_445 ?_
  refine va_sld hx hb hX hbl hbA hS h1 dL_law_446 ?_
  refine lv_aload_n hx hb dL_law_447 rfl (lv_at hl 0 rfl) ?_
  refine lv_iload_n hx hb dL_law_448 rfl (lv_at hl 3 rfl) ?_
  refine lv_iconst (v := 2) hx hb dL_law_449 (by decide) ?_
  refine lv_iadd hx hb dL_law_450 ?_
  refine va_sld hx hb hX hbl hbA hS h2 dL_law_451 ?_
  refine lv_aload_n hx hb dL_law_452 rfl (lv_at hl 0 rfl) ?_
  refine lv_iload_n hx hb dL_law_453 rfl (lv_at hl 3 rfl) ?_
  refine lv_iconst (v := 3) hx hb dL_law_454 (by decide) ?_
  refine lv_iadd hx hb dL_law_455 ?_
  refine va_sld hx hb hX hbl hbA hS h3 dL_law_456 ?_
  have hP := va_P.swap (a := []) hP
  have hD := va_D.swap (a := []) hD
  refine zc_i (zc_runV (sh := shM) (N := 18) (ad := adM) (rs := wW shX 67 cc adX X1) (As := [.int (xs (x3 + 1).toNatClampNeg), .int (xs (x3 + 2).toNatClampNeg), .int (xs (x3 + 3).toNatClampNeg)]) (rest := [.int r1]) ⟨hx, hb, hml, hown, hts⟩ (c_X6_unchange l D cc (fun q : Nat => s.heap.size ≤ q) adM (wW shX 67 cc adX X1) (xs (x3 + 1).toNatClampNeg) (xs (x3 + 2).toNatClampNeg) (xs (x3 + 3).toNatClampNeg) M0 _ h) (cwV 3 hts gL_law_X6_unchange rfl rfl rfl (by decide +kernel) ⟨Nat.le_of_ble_eq_true rfl, Nat.le_of_ble_eq_true rfl⟩) kM_0 rfl hK hN hP hD rfl hl.1 rfl (Nat.le_of_ble_eq_true rfl) dL_law_457 hc) hS (fun r2 M1 H locs h hP hD hS => ?_)
  have hP := va_P.swap (a := []) hP
  have hD := va_D.swap (a := []) hD
  refine lv_icmp_eq (tgt := 1053) hx hb dL_law_460 (by decide) (fun c9 => ?_) (fun c9 => ?_)
  · exact kk X1 M1 H locs ls h.2 hP hD hS hl
  · exact absurd h.1 c9
set_option maxHeartbeats 4000000 in
set_option maxRecDepth 100000 in
theorem law_setOn {p : Program} {l : Launch} {e : Env} {s : State} {m : MethodId} {below : List Frame} {meth : Method} {c : Code} {D : va_G} {cc : Nat → ClassId} {adX adM : Nat → Nat} {b L : Nat} {xs : Nat → Int32} {nc ns : Nat} {R : Mem → Mem → Prop} (C0 : lw_At p s m meth c b L xs) (hK : va_K D vwCl (tyL cc) s) (hN : NW s) (hc : nc ≤ room_1.cells ∧ ns ≤ room_1.slots) {X0 M0 : Mem} {x3 : Int32} (h1 : vp_in (x3 + 1) L) (h2 : vp_in (x3 + 2) L) (h : ((xs (x3 + 2).toNatClampNeg) = 0 → f_X5_setOn (xs (x3 + 1).toNatClampNeg) 0 X0 (fun r1 X1 => f_X6_setOn (xs (x3 + 1).toNatClampNeg) 0 M0 (fun r2 M1 => r1 = r2 ∧ R X1 M1))) ∧ (¬ (xs (x3 + 2).toNatClampNeg) = 0 → f_X5_setOn (xs (x3 + 1).toNatClampNeg) 1 X0 (fun r1 X1 => f_X6_setOn (xs (x3 + 1).toNatClampNeg) 1 M0 (fun r2 M1 => r1 = r2 ∧ R X1 M1)))) {H : Heap} {locs : List Loc} {ls : Array Slot} (hP : va_P D vwCl (wW shX 67 cc adX X0 ++ wW shM 18 cc adM M0) H) (hD : va_D (fun q : Nat => s.heap.size ≤ q) (wW shX 67 cc adX X0 ++ wW shM 18 cc adM M0)) (hS : va_S (fun q : Nat => s.heap.size ≤ q) s.heap H locs) (hl : lv_has ls 4 [(0, .ref b), (1, .ref (adX 0)), (2, .ref (adM 0)), (3, .int x3)])
    (kk : ∀ (X1 M1 : Mem) (H : Heap) (locs : List Loc) (ls : Array Slot), R X1 M1 → va_P D vwCl (wW shX 67 cc adX X1 ++ wW shM 18 cc adM M1) H → va_D (fun q : Nat => s.heap.size ≤ q) (wW shX 67 cc adX X1 ++ wW shM 18 cc adM M1) → va_S (fun q : Nat => s.heap.size ≤ q) s.heap H locs → lv_has ls 4 [(0, .ref b), (1, .ref (adX 0)), (2, .ref (adM 0)), (3, .int x3)] → W p l e room_1 s m #[Value.ref b] below meth c H locs nc ns (lw_Z below #[Value.ref b] s) (F0 m 1053 ls [])) : W p l e room_1 s m #[Value.ref b] below meth c H locs nc ns (lw_Z below #[Value.ref b] s) (F0 m 465 ls []) := by
  obtain ⟨hx, hb, hr, hml, hown, hts0, hX, hbl, hlocks, hgv⟩ := C0
  have hts : ∀ w ∈ wsL_law, w.before #[Value.ref b] s = true := fun w h => hts0 w (wsL_law_in w h)
  have hbA : ¬ (fun q : Nat => s.heap.size ≤ q) b := Nat.not_le.mpr hbl
  refine lv_aload_n hx hb dL_law_465 rfl (lv_at hl 1 rfl) ?_
  refine lv_aload_n hx hb dL_law_466 rfl (lv_at hl 0 rfl) ?_
  refine lv_iload_n hx hb dL_law_467 rfl (lv_at hl 3 rfl) ?_
  refine lv_iconst (v := 1) hx hb dL_law_468 (by decide) ?_
  refine lv_iadd hx hb dL_law_469 ?_
  refine va_sld hx hb hX hbl hbA hS h1 dL_law_470 ?_
  refine lv_aload_n hx hb dL_law_471 rfl (lv_at hl 0 rfl) ?_
  refine lv_iload_n hx hb dL_law_472 rfl (lv_at hl 3 rfl) ?_
  refine lv_iconst (v := 2) hx hb dL_law_473 (by decide) ?_
  refine lv_iadd hx hb dL_law_474 ?_
  refine va_sld hx hb hX hbl hbA hS h2 dL_law_475 ?_
  refine lv_if_eq (tgt := 483) hx hb dL_law_476 (by decide) (fun c1 => ?_) (fun c1 => ?_)
  · refine lv_iconst (v := 0) hx hb dL_law_483 (by decide) ?_
    have h := h.1 c1
    have c2 := c1
    refine zc_i (zc_runV (sh := shX) (N := 67) (ad := adX) (rs := wW shM 18 cc adM M0) (As := [.int (xs (x3 + 1).toNatClampNeg), .int 0]) (rest := []) ⟨hx, hb, hml, hown, hts⟩ (c_X5_setOn l D cc (fun q : Nat => s.heap.size ≤ q) adX (wW shM 18 cc adM M0) (xs (x3 + 1).toNatClampNeg) 0 X0 _ h) (cwV 2 hts gL_law_X5_setOn rfl rfl rfl (by decide +kernel) ⟨Nat.le_of_ble_eq_true rfl, Nat.le_of_ble_eq_true rfl⟩) kX_0 rfl hK hN hP hD rfl hl.1 rfl (Nat.le_of_ble_eq_true rfl) dL_law_484 hc) hS (fun r1 X1 H locs h hP hD hS => ?_)
    refine lv_aload_n hx hb dL_law_487 rfl (lv_at hl 2 rfl) ?_
    refine lv_aload_n hx hb dL_law_488 rfl (lv_at hl 0 rfl) ?_
    refine lv_iload_n hx hb dL_law_489 rfl (lv_at hl 3 rfl) ?_
    refine lv_iconst (v := 1) hx hb dL_law_490 (by decide) ?_
    refine lv_iadd hx hb dL_law_491 ?_
    refine va_sld hx hb hX hbl hbA hS h1 dL_law_492 ?_
    refine lv_aload_n hx hb dL_law_493 rfl (lv_at hl 0 rfl) ?_
    refine lv_iload_n hx hb dL_law_494 rfl (lv_at hl 3 rfl) ?_
    refine lv_iconst (v := 2) hx hb dL_law_495 (by decide) ?_
    refine lv_iadd hx hb dL_law_496 ?_
    refine va_sld hx hb hX hbl hbA hS h2 dL_law_497 ?_
    refine lv_if_eq (tgt := 505) hx hb dL_law_498 (by decide) (fun c1 => ?_) (fun c1 => ?_)
    · refine lv_iconst (v := 0) hx hb dL_law_505 (by decide) ?_
      have hP := va_P.swap (a := []) hP
      have hD := va_D.swap (a := []) hD
      refine zc_i (zc_runV (sh := shM) (N := 18) (ad := adM) (rs := wW shX 67 cc adX X1) (As := [.int (xs (x3 + 1).toNatClampNeg), .int 0]) (rest := [.int r1]) ⟨hx, hb, hml, hown, hts⟩ (c_X6_setOn l D cc (fun q : Nat => s.heap.size ≤ q) adM (wW shX 67 cc adX X1) (xs (x3 + 1).toNatClampNeg) 0 M0 _ h) (cwV 2 hts gL_law_X6_setOn rfl rfl rfl (by decide +kernel) ⟨Nat.le_of_ble_eq_true rfl, Nat.le_of_ble_eq_true rfl⟩) kM_0 rfl hK hN hP hD rfl hl.1 rfl (Nat.le_of_ble_eq_true rfl) dL_law_506 hc) hS (fun r2 M1 H locs h hP hD hS => ?_)
      have hP := va_P.swap (a := []) hP
      have hD := va_D.swap (a := []) hD
      refine lv_icmp_eq (tgt := 1053) hx hb dL_law_509 (by decide) (fun c9 => ?_) (fun c9 => ?_)
      · exact kk X1 M1 H locs ls h.2 hP hD hS hl
      · exact absurd h.1 c9
    · refine lv_iconst (v := 1) hx hb dL_law_501 (by decide) ?_
      refine lv_goto (tgt := 506) hx hb dL_law_502 (by decide) ?_
      exact absurd c2 c1
  · refine lv_iconst (v := 1) hx hb dL_law_479 (by decide) ?_
    refine lv_goto (tgt := 484) hx hb dL_law_480 (by decide) ?_
    have h := h.2 c1
    have c2 := c1
    refine zc_i (zc_runV (sh := shX) (N := 67) (ad := adX) (rs := wW shM 18 cc adM M0) (As := [.int (xs (x3 + 1).toNatClampNeg), .int 1]) (rest := []) ⟨hx, hb, hml, hown, hts⟩ (c_X5_setOn l D cc (fun q : Nat => s.heap.size ≤ q) adX (wW shM 18 cc adM M0) (xs (x3 + 1).toNatClampNeg) 1 X0 _ h) (cwV 2 hts gL_law_X5_setOn rfl rfl rfl (by decide +kernel) ⟨Nat.le_of_ble_eq_true rfl, Nat.le_of_ble_eq_true rfl⟩) kX_0 rfl hK hN hP hD rfl hl.1 rfl (Nat.le_of_ble_eq_true rfl) dL_law_484 hc) hS (fun r1 X1 H locs h hP hD hS => ?_)
    refine lv_aload_n hx hb dL_law_487 rfl (lv_at hl 2 rfl) ?_
    refine lv_aload_n hx hb dL_law_488 rfl (lv_at hl 0 rfl) ?_
    refine lv_iload_n hx hb dL_law_489 rfl (lv_at hl 3 rfl) ?_
    refine lv_iconst (v := 1) hx hb dL_law_490 (by decide) ?_
    refine lv_iadd hx hb dL_law_491 ?_
    refine va_sld hx hb hX hbl hbA hS h1 dL_law_492 ?_
    refine lv_aload_n hx hb dL_law_493 rfl (lv_at hl 0 rfl) ?_
    refine lv_iload_n hx hb dL_law_494 rfl (lv_at hl 3 rfl) ?_
    refine lv_iconst (v := 2) hx hb dL_law_495 (by decide) ?_
    refine lv_iadd hx hb dL_law_496 ?_
    refine va_sld hx hb hX hbl hbA hS h2 dL_law_497 ?_
    refine lv_if_eq (tgt := 505) hx hb dL_law_498 (by decide) (fun c1 => ?_) (fun c1 => ?_)
    · refine lv_iconst (v := 0) hx hb dL_law_505 (by decide) ?_
      exact absurd c1 c2
    · refine lv_iconst (v := 1) hx hb dL_law_501 (by decide) ?_
      refine lv_goto (tgt := 506) hx hb dL_law_502 (by decide) ?_
      have hP := va_P.swap (a := []) hP
      have hD := va_D.swap (a := []) hD
      refine zc_i (zc_runV (sh := shM) (N := 18) (ad := adM) (rs := wW shX 67 cc adX X1) (As := [.int (xs (x3 + 1).toNatClampNeg), .int 1]) (rest := [.int r1]) ⟨hx, hb, hml, hown, hts⟩ (c_X6_setOn l D cc (fun q : Nat => s.heap.size ≤ q) adM (wW shX 67 cc adX X1) (xs (x3 + 1).toNatClampNeg) 1 M0 _ h) (cwV 2 hts gL_law_X6_setOn rfl rfl rfl (by decide +kernel) ⟨Nat.le_of_ble_eq_true rfl, Nat.le_of_ble_eq_true rfl⟩) kM_0 rfl hK hN hP hD rfl hl.1 rfl (Nat.le_of_ble_eq_true rfl) dL_law_506 hc) hS (fun r2 M1 H locs h hP hD hS => ?_)
      have hP := va_P.swap (a := []) hP
      have hD := va_D.swap (a := []) hD
      refine lv_icmp_eq (tgt := 1053) hx hb dL_law_509 (by decide) (fun c9 => ?_) (fun c9 => ?_)
      · exact kk X1 M1 H locs ls h.2 hP hD hS hl
      · exact absurd h.1 c9
set_option maxHeartbeats 4000000 in
set_option maxRecDepth 100000 in
theorem law_features {p : Program} {l : Launch} {e : Env} {s : State} {m : MethodId} {below : List Frame} {meth : Method} {c : Code} {D : va_G} {cc : Nat → ClassId} {adX adM : Nat → Nat} {b L : Nat} {xs : Nat → Int32} {nc ns : Nat} {R : Mem → Mem → Prop} (C0 : lw_At p s m meth c b L xs) (hK : va_K D vwCl (tyL cc) s) (hN : NW s) (hc : nc ≤ room_1.cells ∧ ns ≤ room_1.slots) {X0 M0 : Mem} {x3 : Int32}  (h : f_X5_features  X0 (fun r1 X1 => f_X6_features  M0 (fun r2 M1 => r1 = r2 ∧ R X1 M1))) {H : Heap} {locs : List Loc} {ls : Array Slot} (hP : va_P D vwCl (wW shX 67 cc adX X0 ++ wW shM 18 cc adM M0) H) (hD : va_D (fun q : Nat => s.heap.size ≤ q) (wW shX 67 cc adX X0 ++ wW shM 18 cc adM M0)) (hS : va_S (fun q : Nat => s.heap.size ≤ q) s.heap H locs) (hl : lv_has ls 4 [(0, .ref b), (1, .ref (adX 0)), (2, .ref (adM 0)), (3, .int x3)])
    (kk : ∀ (X1 M1 : Mem) (H : Heap) (locs : List Loc) (ls : Array Slot), R X1 M1 → va_P D vwCl (wW shX 67 cc adX X1 ++ wW shM 18 cc adM M1) H → va_D (fun q : Nat => s.heap.size ≤ q) (wW shX 67 cc adX X1 ++ wW shM 18 cc adM M1) → va_S (fun q : Nat => s.heap.size ≤ q) s.heap H locs → lv_has ls 4 [(0, .ref b), (1, .ref (adX 0)), (2, .ref (adM 0)), (3, .int x3)] → W p l e room_1 s m #[Value.ref b] below meth c H locs nc ns (lw_Z below #[Value.ref b] s) (F0 m 1053 ls [])) : W p l e room_1 s m #[Value.ref b] below meth c H locs nc ns (lw_Z below #[Value.ref b] s) (F0 m 514 ls []) := by
  obtain ⟨hx, hb, hr, hml, hown, hts0, hX, hbl, hlocks, hgv⟩ := C0
  have hts : ∀ w ∈ wsL_law, w.before #[Value.ref b] s = true := fun w h => hts0 w (wsL_law_in w h)
  have hbA : ¬ (fun q : Nat => s.heap.size ≤ q) b := Nat.not_le.mpr hbl
  refine lv_aload_n hx hb dL_law_514 rfl (lv_at hl 1 rfl) ?_
  refine zc_i (zc_runV (sh := shX) (N := 67) (ad := adX) (rs := wW shM 18 cc adM M0) (As := []) (rest := []) ⟨hx, hb, hml, hown, hts⟩ (c_X5_features l D cc (fun q : Nat => s.heap.size ≤ q) adX (wW shM 18 cc adM M0)  X0 _ h) (cwV 0 hts gL_law_X5_features rfl rfl rfl (by decide +kernel) ⟨Nat.le_of_ble_eq_true rfl, Nat.le_of_ble_eq_true rfl⟩) kX_0 rfl hK hN hP hD rfl hl.1 rfl (Nat.le_of_ble_eq_true rfl) dL_law_515 hc) hS (fun r1 X1 H locs h hP hD hS => ?_)
  refine lv_aload_n hx hb dL_law_518 rfl (lv_at hl 2 rfl) ?_
  have hP := va_P.swap (a := []) hP
  have hD := va_D.swap (a := []) hD
  refine zc_i (zc_runV (sh := shM) (N := 18) (ad := adM) (rs := wW shX 67 cc adX X1) (As := []) (rest := [.int r1]) ⟨hx, hb, hml, hown, hts⟩ (c_X6_features l D cc (fun q : Nat => s.heap.size ≤ q) adM (wW shX 67 cc adX X1)  M0 _ h) (cwV 0 hts gL_law_X6_features rfl rfl rfl (by decide +kernel) ⟨Nat.le_of_ble_eq_true rfl, Nat.le_of_ble_eq_true rfl⟩) kM_0 rfl hK hN hP hD rfl hl.1 rfl (Nat.le_of_ble_eq_true rfl) dL_law_519 hc) hS (fun r2 M1 H locs h hP hD hS => ?_)
  have hP := va_P.swap (a := []) hP
  have hD := va_D.swap (a := []) hD
  refine lv_icmp_eq (tgt := 1053) hx hb dL_law_522 (by decide) (fun c9 => ?_) (fun c9 => ?_)
  · exact kk X1 M1 H locs ls h.2 hP hD hS hl
  · exact absurd h.1 c9
set_option maxHeartbeats 4000000 in
set_option maxRecDepth 100000 in
theorem law_changes {p : Program} {l : Launch} {e : Env} {s : State} {m : MethodId} {below : List Frame} {meth : Method} {c : Code} {D : va_G} {cc : Nat → ClassId} {adX adM : Nat → Nat} {b L : Nat} {xs : Nat → Int32} {nc ns : Nat} {R : Mem → Mem → Prop} (C0 : lw_At p s m meth c b L xs) (hK : va_K D vwCl (tyL cc) s) (hN : NW s) (hc : nc ≤ room_1.cells ∧ ns ≤ room_1.slots) {X0 M0 : Mem} {x3 : Int32} (h1 : vp_in (x3 + 1) L) (h : f_X5_changes (xs (x3 + 1).toNatClampNeg) X0 (fun r1 X1 => f_X6_changes (xs (x3 + 1).toNatClampNeg) M0 (fun r2 M1 => r1 = r2 ∧ R X1 M1))) {H : Heap} {locs : List Loc} {ls : Array Slot} (hP : va_P D vwCl (wW shX 67 cc adX X0 ++ wW shM 18 cc adM M0) H) (hD : va_D (fun q : Nat => s.heap.size ≤ q) (wW shX 67 cc adX X0 ++ wW shM 18 cc adM M0)) (hS : va_S (fun q : Nat => s.heap.size ≤ q) s.heap H locs) (hl : lv_has ls 4 [(0, .ref b), (1, .ref (adX 0)), (2, .ref (adM 0)), (3, .int x3)])
    (kk : ∀ (X1 M1 : Mem) (H : Heap) (locs : List Loc) (ls : Array Slot), R X1 M1 → va_P D vwCl (wW shX 67 cc adX X1 ++ wW shM 18 cc adM M1) H → va_D (fun q : Nat => s.heap.size ≤ q) (wW shX 67 cc adX X1 ++ wW shM 18 cc adM M1) → va_S (fun q : Nat => s.heap.size ≤ q) s.heap H locs → lv_has ls 4 [(0, .ref b), (1, .ref (adX 0)), (2, .ref (adM 0)), (3, .int x3)] → W p l e room_1 s m #[Value.ref b] below meth c H locs nc ns (lw_Z below #[Value.ref b] s) (F0 m 1053 ls [])) : W p l e room_1 s m #[Value.ref b] below meth c H locs nc ns (lw_Z below #[Value.ref b] s) (F0 m 527 ls []) := by
  obtain ⟨hx, hb, hr, hml, hown, hts0, hX, hbl, hlocks, hgv⟩ := C0
  have hts : ∀ w ∈ wsL_law, w.before #[Value.ref b] s = true := fun w h => hts0 w (wsL_law_in w h)
  have hbA : ¬ (fun q : Nat => s.heap.size ≤ q) b := Nat.not_le.mpr hbl
  refine lv_aload_n hx hb dL_law_527 rfl (lv_at hl 1 rfl) ?_
  refine lv_aload_n hx hb dL_law_528 rfl (lv_at hl 0 rfl) ?_
  refine lv_iload_n hx hb dL_law_529 rfl (lv_at hl 3 rfl) ?_
  refine lv_iconst (v := 1) hx hb dL_law_530 (by decide) ?_
  refine lv_iadd hx hb dL_law_531 ?_
  refine va_sld hx hb hX hbl hbA hS h1 dL_law_532 ?_
  refine zc_i (zc_runV (sh := shX) (N := 67) (ad := adX) (rs := wW shM 18 cc adM M0) (As := [.int (xs (x3 + 1).toNatClampNeg)]) (rest := []) ⟨hx, hb, hml, hown, hts⟩ (c_X5_changes l D cc (fun q : Nat => s.heap.size ≤ q) adX (wW shM 18 cc adM M0) (xs (x3 + 1).toNatClampNeg) X0 _ h) (cwV 1 hts gL_law_X5_changes rfl rfl rfl (by decide +kernel) ⟨Nat.le_of_ble_eq_true rfl, Nat.le_of_ble_eq_true rfl⟩) kX_0 rfl hK hN hP hD rfl hl.1 rfl (Nat.le_of_ble_eq_true rfl) dL_law_533 hc) hS (fun r1 X1 H locs h hP hD hS => ?_)
  refine lv_aload_n hx hb dL_law_536 rfl (lv_at hl 2 rfl) ?_
  refine lv_aload_n hx hb dL_law_537 rfl (lv_at hl 0 rfl) ?_
  refine lv_iload_n hx hb dL_law_538 rfl (lv_at hl 3 rfl) ?_
  refine lv_iconst (v := 1) hx hb dL_law_539 (by decide) ?_
  refine lv_iadd hx hb dL_law_540 ?_
  refine va_sld hx hb hX hbl hbA hS h1 dL_law_541 ?_
  have hP := va_P.swap (a := []) hP
  have hD := va_D.swap (a := []) hD
  refine zc_i (zc_runV (sh := shM) (N := 18) (ad := adM) (rs := wW shX 67 cc adX X1) (As := [.int (xs (x3 + 1).toNatClampNeg)]) (rest := [.int r1]) ⟨hx, hb, hml, hown, hts⟩ (c_X6_changes l D cc (fun q : Nat => s.heap.size ≤ q) adM (wW shX 67 cc adX X1) (xs (x3 + 1).toNatClampNeg) M0 _ h) (cwV 1 hts gL_law_X6_changes rfl rfl rfl (by decide +kernel) ⟨Nat.le_of_ble_eq_true rfl, Nat.le_of_ble_eq_true rfl⟩) kM_0 rfl hK hN hP hD rfl hl.1 rfl (Nat.le_of_ble_eq_true rfl) dL_law_542 hc) hS (fun r2 M1 H locs h hP hD hS => ?_)
  have hP := va_P.swap (a := []) hP
  have hD := va_D.swap (a := []) hD
  refine lv_icmp_eq (tgt := 1053) hx hb dL_law_545 (by decide) (fun c9 => ?_) (fun c9 => ?_)
  · exact kk X1 M1 H locs ls h.2 hP hD hS hl
  · exact absurd h.1 c9
set_option maxHeartbeats 4000000 in
set_option maxRecDepth 100000 in
theorem law_append {p : Program} {l : Launch} {e : Env} {s : State} {m : MethodId} {below : List Frame} {meth : Method} {c : Code} {D : va_G} {cc : Nat → ClassId} {adX adM : Nat → Nat} {b L : Nat} {xs : Nat → Int32} {nc ns : Nat} {R : Mem → Mem → Prop} (C0 : lw_At p s m meth c b L xs) (hK : va_K D vwCl (tyL cc) s) (hN : NW s) (hc : nc ≤ room_1.cells ∧ ns ≤ room_1.slots) {X0 M0 : Mem} {x3 : Int32} (h1 : vp_in (x3 + 1) L) (h : f_X5_append (xs (x3 + 1).toNatClampNeg) X0 (fun r1 X1 => f_X6_append (xs (x3 + 1).toNatClampNeg) M0 (fun r2 M1 => r1 = r2 ∧ R X1 M1))) {H : Heap} {locs : List Loc} {ls : Array Slot} (hP : va_P D vwCl (wW shX 67 cc adX X0 ++ wW shM 18 cc adM M0) H) (hD : va_D (fun q : Nat => s.heap.size ≤ q) (wW shX 67 cc adX X0 ++ wW shM 18 cc adM M0)) (hS : va_S (fun q : Nat => s.heap.size ≤ q) s.heap H locs) (hl : lv_has ls 4 [(0, .ref b), (1, .ref (adX 0)), (2, .ref (adM 0)), (3, .int x3)])
    (kk : ∀ (X1 M1 : Mem) (H : Heap) (locs : List Loc) (ls : Array Slot), R X1 M1 → va_P D vwCl (wW shX 67 cc adX X1 ++ wW shM 18 cc adM M1) H → va_D (fun q : Nat => s.heap.size ≤ q) (wW shX 67 cc adX X1 ++ wW shM 18 cc adM M1) → va_S (fun q : Nat => s.heap.size ≤ q) s.heap H locs → lv_has ls 4 [(0, .ref b), (1, .ref (adX 0)), (2, .ref (adM 0)), (3, .int x3)] → W p l e room_1 s m #[Value.ref b] below meth c H locs nc ns (lw_Z below #[Value.ref b] s) (F0 m 1053 ls [])) : W p l e room_1 s m #[Value.ref b] below meth c H locs nc ns (lw_Z below #[Value.ref b] s) (F0 m 550 ls []) := by
  obtain ⟨hx, hb, hr, hml, hown, hts0, hX, hbl, hlocks, hgv⟩ := C0
  have hts : ∀ w ∈ wsL_law, w.before #[Value.ref b] s = true := fun w h => hts0 w (wsL_law_in w h)
  have hbA : ¬ (fun q : Nat => s.heap.size ≤ q) b := Nat.not_le.mpr hbl
  refine lv_aload_n hx hb dL_law_550 rfl (lv_at hl 1 rfl) ?_
  refine lv_aload_n hx hb dL_law_551 rfl (lv_at hl 0 rfl) ?_
  refine lv_iload_n hx hb dL_law_552 rfl (lv_at hl 3 rfl) ?_
  refine lv_iconst (v := 1) hx hb dL_law_553 (by decide) ?_
  refine lv_iadd hx hb dL_law_554 ?_
  refine va_sld hx hb hX hbl hbA hS h1 dL_law_555 ?_
  refine zc_i (zc_runV (sh := shX) (N := 67) (ad := adX) (rs := wW shM 18 cc adM M0) (As := [.int (xs (x3 + 1).toNatClampNeg)]) (rest := []) ⟨hx, hb, hml, hown, hts⟩ (c_X5_append l D cc (fun q : Nat => s.heap.size ≤ q) adX (wW shM 18 cc adM M0) (xs (x3 + 1).toNatClampNeg) X0 _ h) (cwV 1 hts gL_law_X5_append rfl rfl rfl (by decide +kernel) ⟨Nat.le_of_ble_eq_true rfl, Nat.le_of_ble_eq_true rfl⟩) kX_0 rfl hK hN hP hD rfl hl.1 rfl (Nat.le_of_ble_eq_true rfl) dL_law_556 hc) hS (fun r1 X1 H locs h hP hD hS => ?_)
  refine lv_aload_n hx hb dL_law_559 rfl (lv_at hl 2 rfl) ?_
  refine lv_aload_n hx hb dL_law_560 rfl (lv_at hl 0 rfl) ?_
  refine lv_iload_n hx hb dL_law_561 rfl (lv_at hl 3 rfl) ?_
  refine lv_iconst (v := 1) hx hb dL_law_562 (by decide) ?_
  refine lv_iadd hx hb dL_law_563 ?_
  refine va_sld hx hb hX hbl hbA hS h1 dL_law_564 ?_
  have hP := va_P.swap (a := []) hP
  have hD := va_D.swap (a := []) hD
  refine zc_i (zc_runV (sh := shM) (N := 18) (ad := adM) (rs := wW shX 67 cc adX X1) (As := [.int (xs (x3 + 1).toNatClampNeg)]) (rest := [.int r1]) ⟨hx, hb, hml, hown, hts⟩ (c_X6_append l D cc (fun q : Nat => s.heap.size ≤ q) adM (wW shX 67 cc adX X1) (xs (x3 + 1).toNatClampNeg) M0 _ h) (cwV 1 hts gL_law_X6_append rfl rfl rfl (by decide +kernel) ⟨Nat.le_of_ble_eq_true rfl, Nat.le_of_ble_eq_true rfl⟩) kM_0 rfl hK hN hP hD rfl hl.1 rfl (Nat.le_of_ble_eq_true rfl) dL_law_565 hc) hS (fun r2 M1 H locs h hP hD hS => ?_)
  have hP := va_P.swap (a := []) hP
  have hD := va_D.swap (a := []) hD
  refine lv_icmp_eq (tgt := 1053) hx hb dL_law_568 (by decide) (fun c9 => ?_) (fun c9 => ?_)
  · exact kk X1 M1 H locs ls h.2 hP hD hS hl
  · exact absurd h.1 c9
set_option maxHeartbeats 4000000 in
set_option maxRecDepth 100000 in
theorem law_clearText {p : Program} {l : Launch} {e : Env} {s : State} {m : MethodId} {below : List Frame} {meth : Method} {c : Code} {D : va_G} {cc : Nat → ClassId} {adX adM : Nat → Nat} {b L : Nat} {xs : Nat → Int32} {nc ns : Nat} {R : Mem → Mem → Prop} (C0 : lw_At p s m meth c b L xs) (hK : va_K D vwCl (tyL cc) s) (hN : NW s) (hc : nc ≤ room_1.cells ∧ ns ≤ room_1.slots) {X0 M0 : Mem} {x3 : Int32}  (h : f_X5_clearText  X0 (fun r1 X1 => f_X6_clearText  M0 (fun r2 M1 => r1 = r2 ∧ R X1 M1))) {H : Heap} {locs : List Loc} {ls : Array Slot} (hP : va_P D vwCl (wW shX 67 cc adX X0 ++ wW shM 18 cc adM M0) H) (hD : va_D (fun q : Nat => s.heap.size ≤ q) (wW shX 67 cc adX X0 ++ wW shM 18 cc adM M0)) (hS : va_S (fun q : Nat => s.heap.size ≤ q) s.heap H locs) (hl : lv_has ls 4 [(0, .ref b), (1, .ref (adX 0)), (2, .ref (adM 0)), (3, .int x3)])
    (kk : ∀ (X1 M1 : Mem) (H : Heap) (locs : List Loc) (ls : Array Slot), R X1 M1 → va_P D vwCl (wW shX 67 cc adX X1 ++ wW shM 18 cc adM M1) H → va_D (fun q : Nat => s.heap.size ≤ q) (wW shX 67 cc adX X1 ++ wW shM 18 cc adM M1) → va_S (fun q : Nat => s.heap.size ≤ q) s.heap H locs → lv_has ls 4 [(0, .ref b), (1, .ref (adX 0)), (2, .ref (adM 0)), (3, .int x3)] → W p l e room_1 s m #[Value.ref b] below meth c H locs nc ns (lw_Z below #[Value.ref b] s) (F0 m 1053 ls [])) : W p l e room_1 s m #[Value.ref b] below meth c H locs nc ns (lw_Z below #[Value.ref b] s) (F0 m 573 ls []) := by
  obtain ⟨hx, hb, hr, hml, hown, hts0, hX, hbl, hlocks, hgv⟩ := C0
  have hts : ∀ w ∈ wsL_law, w.before #[Value.ref b] s = true := fun w h => hts0 w (wsL_law_in w h)
  have hbA : ¬ (fun q : Nat => s.heap.size ≤ q) b := Nat.not_le.mpr hbl
  refine lv_aload_n hx hb dL_law_573 rfl (lv_at hl 1 rfl) ?_
  refine zc_i (zc_runV (sh := shX) (N := 67) (ad := adX) (rs := wW shM 18 cc adM M0) (As := []) (rest := []) ⟨hx, hb, hml, hown, hts⟩ (c_X5_clearText l D cc (fun q : Nat => s.heap.size ≤ q) adX (wW shM 18 cc adM M0)  X0 _ h) (cwV 0 hts gL_law_X5_clearText rfl rfl rfl (by decide +kernel) ⟨Nat.le_of_ble_eq_true rfl, Nat.le_of_ble_eq_true rfl⟩) kX_0 rfl hK hN hP hD rfl hl.1 rfl (Nat.le_of_ble_eq_true rfl) dL_law_574 hc) hS (fun r1 X1 H locs h hP hD hS => ?_)
  refine lv_aload_n hx hb dL_law_577 rfl (lv_at hl 2 rfl) ?_
  have hP := va_P.swap (a := []) hP
  have hD := va_D.swap (a := []) hD
  refine zc_i (zc_runV (sh := shM) (N := 18) (ad := adM) (rs := wW shX 67 cc adX X1) (As := []) (rest := [.int r1]) ⟨hx, hb, hml, hown, hts⟩ (c_X6_clearText l D cc (fun q : Nat => s.heap.size ≤ q) adM (wW shX 67 cc adX X1)  M0 _ h) (cwV 0 hts gL_law_X6_clearText rfl rfl rfl (by decide +kernel) ⟨Nat.le_of_ble_eq_true rfl, Nat.le_of_ble_eq_true rfl⟩) kM_0 rfl hK hN hP hD rfl hl.1 rfl (Nat.le_of_ble_eq_true rfl) dL_law_578 hc) hS (fun r2 M1 H locs h hP hD hS => ?_)
  have hP := va_P.swap (a := []) hP
  have hD := va_D.swap (a := []) hD
  refine lv_icmp_eq (tgt := 1053) hx hb dL_law_581 (by decide) (fun c9 => ?_) (fun c9 => ?_)
  · exact kk X1 M1 H locs ls h.2 hP hD hS hl
  · exact absurd h.1 c9
set_option maxHeartbeats 4000000 in
set_option maxRecDepth 100000 in
theorem law_faultPosition {p : Program} {l : Launch} {e : Env} {s : State} {m : MethodId} {below : List Frame} {meth : Method} {c : Code} {D : va_G} {cc : Nat → ClassId} {adX adM : Nat → Nat} {b L : Nat} {xs : Nat → Int32} {nc ns : Nat} {R : Mem → Mem → Prop} (C0 : lw_At p s m meth c b L xs) (hK : va_K D vwCl (tyL cc) s) (hN : NW s) (hc : nc ≤ room_1.cells ∧ ns ≤ room_1.slots) {X0 M0 : Mem} {x3 : Int32}  (h : f_X5_faultPosition  X0 (fun r1 X1 => f_X6_faultPosition  M0 (fun r2 M1 => r1 = r2 ∧ R X1 M1))) {H : Heap} {locs : List Loc} {ls : Array Slot} (hP : va_P D vwCl (wW shX 67 cc adX X0 ++ wW shM 18 cc adM M0) H) (hD : va_D (fun q : Nat => s.heap.size ≤ q) (wW shX 67 cc adX X0 ++ wW shM 18 cc adM M0)) (hS : va_S (fun q : Nat => s.heap.size ≤ q) s.heap H locs) (hl : lv_has ls 4 [(0, .ref b), (1, .ref (adX 0)), (2, .ref (adM 0)), (3, .int x3)])
    (kk : ∀ (X1 M1 : Mem) (H : Heap) (locs : List Loc) (ls : Array Slot), R X1 M1 → va_P D vwCl (wW shX 67 cc adX X1 ++ wW shM 18 cc adM M1) H → va_D (fun q : Nat => s.heap.size ≤ q) (wW shX 67 cc adX X1 ++ wW shM 18 cc adM M1) → va_S (fun q : Nat => s.heap.size ≤ q) s.heap H locs → lv_has ls 4 [(0, .ref b), (1, .ref (adX 0)), (2, .ref (adM 0)), (3, .int x3)] → W p l e room_1 s m #[Value.ref b] below meth c H locs nc ns (lw_Z below #[Value.ref b] s) (F0 m 1053 ls [])) : W p l e room_1 s m #[Value.ref b] below meth c H locs nc ns (lw_Z below #[Value.ref b] s) (F0 m 586 ls []) := by
  obtain ⟨hx, hb, hr, hml, hown, hts0, hX, hbl, hlocks, hgv⟩ := C0
  have hts : ∀ w ∈ wsL_law, w.before #[Value.ref b] s = true := fun w h => hts0 w (wsL_law_in w h)
  have hbA : ¬ (fun q : Nat => s.heap.size ≤ q) b := Nat.not_le.mpr hbl
  refine lv_aload_n hx hb dL_law_586 rfl (lv_at hl 1 rfl) ?_
  refine zc_i (zc_runV (sh := shX) (N := 67) (ad := adX) (rs := wW shM 18 cc adM M0) (As := []) (rest := []) ⟨hx, hb, hml, hown, hts⟩ (c_X5_faultPosition l D cc (fun q : Nat => s.heap.size ≤ q) adX (wW shM 18 cc adM M0)  X0 _ h) (cwV 0 hts gL_law_X5_faultPosition rfl rfl rfl (by decide +kernel) ⟨Nat.le_of_ble_eq_true rfl, Nat.le_of_ble_eq_true rfl⟩) kX_0 rfl hK hN hP hD rfl hl.1 rfl (Nat.le_of_ble_eq_true rfl) dL_law_587 hc) hS (fun r1 X1 H locs h hP hD hS => ?_)
  refine lv_aload_n hx hb dL_law_590 rfl (lv_at hl 2 rfl) ?_
  have hP := va_P.swap (a := []) hP
  have hD := va_D.swap (a := []) hD
  refine zc_i (zc_runV (sh := shM) (N := 18) (ad := adM) (rs := wW shX 67 cc adX X1) (As := []) (rest := [.int r1]) ⟨hx, hb, hml, hown, hts⟩ (c_X6_faultPosition l D cc (fun q : Nat => s.heap.size ≤ q) adM (wW shX 67 cc adX X1)  M0 _ h) (cwV 0 hts gL_law_X6_faultPosition rfl rfl rfl (by decide +kernel) ⟨Nat.le_of_ble_eq_true rfl, Nat.le_of_ble_eq_true rfl⟩) kM_0 rfl hK hN hP hD rfl hl.1 rfl (Nat.le_of_ble_eq_true rfl) dL_law_591 hc) hS (fun r2 M1 H locs h hP hD hS => ?_)
  have hP := va_P.swap (a := []) hP
  have hD := va_D.swap (a := []) hD
  refine lv_icmp_eq (tgt := 1053) hx hb dL_law_594 (by decide) (fun c9 => ?_) (fun c9 => ?_)
  · exact kk X1 M1 H locs ls h.2 hP hD hS hl
  · exact absurd h.1 c9
set_option maxHeartbeats 4000000 in
set_option maxRecDepth 100000 in
theorem law_read {p : Program} {l : Launch} {e : Env} {s : State} {m : MethodId} {below : List Frame} {meth : Method} {c : Code} {D : va_G} {cc : Nat → ClassId} {adX adM : Nat → Nat} {b L : Nat} {xs : Nat → Int32} {nc ns : Nat} {R : Mem → Mem → Prop} (C0 : lw_At p s m meth c b L xs) (hK : va_K D vwCl (tyL cc) s) (hN : NW s) (hc : nc ≤ room_1.cells ∧ ns ≤ room_1.slots) {X0 M0 : Mem} {x3 : Int32} (h1 : vp_in (x3 + 1) L) (h : f_X5_read (xs (x3 + 1).toNatClampNeg) X0 (fun r1 X1 => f_X6_read (xs (x3 + 1).toNatClampNeg) M0 (fun r2 M1 => r1 = r2 ∧ R X1 M1))) {H : Heap} {locs : List Loc} {ls : Array Slot} (hP : va_P D vwCl (wW shX 67 cc adX X0 ++ wW shM 18 cc adM M0) H) (hD : va_D (fun q : Nat => s.heap.size ≤ q) (wW shX 67 cc adX X0 ++ wW shM 18 cc adM M0)) (hS : va_S (fun q : Nat => s.heap.size ≤ q) s.heap H locs) (hl : lv_has ls 4 [(0, .ref b), (1, .ref (adX 0)), (2, .ref (adM 0)), (3, .int x3)])
    (kk : ∀ (X1 M1 : Mem) (H : Heap) (locs : List Loc) (ls : Array Slot), R X1 M1 → va_P D vwCl (wW shX 67 cc adX X1 ++ wW shM 18 cc adM M1) H → va_D (fun q : Nat => s.heap.size ≤ q) (wW shX 67 cc adX X1 ++ wW shM 18 cc adM M1) → va_S (fun q : Nat => s.heap.size ≤ q) s.heap H locs → lv_has ls 4 [(0, .ref b), (1, .ref (adX 0)), (2, .ref (adM 0)), (3, .int x3)] → W p l e room_1 s m #[Value.ref b] below meth c H locs nc ns (lw_Z below #[Value.ref b] s) (F0 m 1053 ls [])) : W p l e room_1 s m #[Value.ref b] below meth c H locs nc ns (lw_Z below #[Value.ref b] s) (F0 m 599 ls []) := by
  obtain ⟨hx, hb, hr, hml, hown, hts0, hX, hbl, hlocks, hgv⟩ := C0
  have hts : ∀ w ∈ wsL_law, w.before #[Value.ref b] s = true := fun w h => hts0 w (wsL_law_in w h)
  have hbA : ¬ (fun q : Nat => s.heap.size ≤ q) b := Nat.not_le.mpr hbl
  refine lv_aload_n hx hb dL_law_599 rfl (lv_at hl 1 rfl) ?_
  refine lv_aload_n hx hb dL_law_600 rfl (lv_at hl 0 rfl) ?_
  refine lv_iload_n hx hb dL_law_601 rfl (lv_at hl 3 rfl) ?_
  refine lv_iconst (v := 1) hx hb dL_law_602 (by decide) ?_
  refine lv_iadd hx hb dL_law_603 ?_
  refine va_sld hx hb hX hbl hbA hS h1 dL_law_604 ?_
  refine zc_i (zc_runV (sh := shX) (N := 67) (ad := adX) (rs := wW shM 18 cc adM M0) (As := [.int (xs (x3 + 1).toNatClampNeg)]) (rest := []) ⟨hx, hb, hml, hown, hts⟩ (c_X5_read l D cc (fun q : Nat => s.heap.size ≤ q) adX (wW shM 18 cc adM M0) (xs (x3 + 1).toNatClampNeg) X0 _ h) (cwV 1 hts gL_law_X5_read rfl rfl rfl (by decide +kernel) ⟨Nat.le_of_ble_eq_true rfl, Nat.le_of_ble_eq_true rfl⟩) kX_0 rfl hK hN hP hD rfl hl.1 rfl (Nat.le_of_ble_eq_true rfl) dL_law_605 hc) hS (fun r1 X1 H locs h hP hD hS => ?_)
  refine lv_aload_n hx hb dL_law_608 rfl (lv_at hl 2 rfl) ?_
  refine lv_aload_n hx hb dL_law_609 rfl (lv_at hl 0 rfl) ?_
  refine lv_iload_n hx hb dL_law_610 rfl (lv_at hl 3 rfl) ?_
  refine lv_iconst (v := 1) hx hb dL_law_611 (by decide) ?_
  refine lv_iadd hx hb dL_law_612 ?_
  refine va_sld hx hb hX hbl hbA hS h1 dL_law_613 ?_
  have hP := va_P.swap (a := []) hP
  have hD := va_D.swap (a := []) hD
  refine zc_i (zc_runV (sh := shM) (N := 18) (ad := adM) (rs := wW shX 67 cc adX X1) (As := [.int (xs (x3 + 1).toNatClampNeg)]) (rest := [.int r1]) ⟨hx, hb, hml, hown, hts⟩ (c_X6_read l D cc (fun q : Nat => s.heap.size ≤ q) adM (wW shX 67 cc adX X1) (xs (x3 + 1).toNatClampNeg) M0 _ h) (cwV 1 hts gL_law_X6_read rfl rfl rfl (by decide +kernel) ⟨Nat.le_of_ble_eq_true rfl, Nat.le_of_ble_eq_true rfl⟩) kM_0 rfl hK hN hP hD rfl hl.1 rfl (Nat.le_of_ble_eq_true rfl) dL_law_614 hc) hS (fun r2 M1 H locs h hP hD hS => ?_)
  have hP := va_P.swap (a := []) hP
  have hD := va_D.swap (a := []) hD
  refine lv_icmp_eq (tgt := 1053) hx hb dL_law_617 (by decide) (fun c9 => ?_) (fun c9 => ?_)
  · exact kk X1 M1 H locs ls h.2 hP hD hS hl
  · exact absurd h.1 c9
set_option maxHeartbeats 4000000 in
set_option maxRecDepth 100000 in
theorem law_clash {p : Program} {l : Launch} {e : Env} {s : State} {m : MethodId} {below : List Frame} {meth : Method} {c : Code} {D : va_G} {cc : Nat → ClassId} {adX adM : Nat → Nat} {b L : Nat} {xs : Nat → Int32} {nc ns : Nat} {R : Mem → Mem → Prop} (C0 : lw_At p s m meth c b L xs) (hK : va_K D vwCl (tyL cc) s) (hN : NW s) (hc : nc ≤ room_1.cells ∧ ns ≤ room_1.slots) {X0 M0 : Mem} {x3 : Int32} (h1 : vp_in (x3 + 1) L) (h2 : vp_in (x3 + 2) L) (h : f_X5_clash (xs (x3 + 1).toNatClampNeg) (xs (x3 + 2).toNatClampNeg) X0 (fun r1 X1 => f_X6_clash (xs (x3 + 1).toNatClampNeg) (xs (x3 + 2).toNatClampNeg) M0 (fun r2 M1 => r1 = r2 ∧ R X1 M1))) {H : Heap} {locs : List Loc} {ls : Array Slot} (hP : va_P D vwCl (wW shX 67 cc adX X0 ++ wW shM 18 cc adM M0) H) (hD : va_D (fun q : Nat => s.heap.size ≤ q) (wW shX 67 cc adX X0 ++ wW shM 18 cc adM M0)) (hS : va_S (fun q : Nat => s.heap.size ≤ q) s.heap H locs) (hl : lv_has ls 4 [(0, .ref b), (1, .ref (adX 0)), (2, .ref (adM 0)), (3, .int x3)])
    (kk : ∀ (X1 M1 : Mem) (H : Heap) (locs : List Loc) (ls : Array Slot), R X1 M1 → va_P D vwCl (wW shX 67 cc adX X1 ++ wW shM 18 cc adM M1) H → va_D (fun q : Nat => s.heap.size ≤ q) (wW shX 67 cc adX X1 ++ wW shM 18 cc adM M1) → va_S (fun q : Nat => s.heap.size ≤ q) s.heap H locs → lv_has ls 4 [(0, .ref b), (1, .ref (adX 0)), (2, .ref (adM 0)), (3, .int x3)] → W p l e room_1 s m #[Value.ref b] below meth c H locs nc ns (lw_Z below #[Value.ref b] s) (F0 m 1053 ls [])) : W p l e room_1 s m #[Value.ref b] below meth c H locs nc ns (lw_Z below #[Value.ref b] s) (F0 m 622 ls []) := by
  obtain ⟨hx, hb, hr, hml, hown, hts0, hX, hbl, hlocks, hgv⟩ := C0
  have hts : ∀ w ∈ wsL_law, w.before #[Value.ref b] s = true := fun w h => hts0 w (wsL_law_in w h)
  have hbA : ¬ (fun q : Nat => s.heap.size ≤ q) b := Nat.not_le.mpr hbl
  refine lv_aload_n hx hb dL_law_622 rfl (lv_at hl 1 rfl) ?_
  refine lv_aload_n hx hb dL_law_623 rfl (lv_at hl 0 rfl) ?_
  refine lv_iload_n hx hb dL_law_624 rfl (lv_at hl 3 rfl) ?_
  refine lv_iconst (v := 1) hx hb dL_law_625 (by decide) ?_
  refine lv_iadd hx hb dL_law_626 ?_
  refine va_sld hx hb hX hbl hbA hS h1 dL_law_627 ?_
  refine lv_aload_n hx hb dL_law_628 rfl (lv_at hl 0 rfl) ?_
  refine lv_iload_n hx hb dL_law_629 rfl (lv_at hl 3 rfl) ?_
  refine lv_iconst (v := 2) hx hb dL_law_630 (by decide) ?_
  refine lv_iadd hx hb dL_law_631 ?_
  refine va_sld hx hb hX hbl hbA hS h2 dL_law_632 ?_
  refine zc_i (zc_runV (sh := shX) (N := 67) (ad := adX) (rs := wW shM 18 cc adM M0) (As := [.int (xs (x3 + 1).toNatClampNeg), .int (xs (x3 + 2).toNatClampNeg)]) (rest := []) ⟨hx, hb, hml, hown, hts⟩ (c_X5_clash l D cc (fun q : Nat => s.heap.size ≤ q) adX (wW shM 18 cc adM M0) (xs (x3 + 1).toNatClampNeg) (xs (x3 + 2).toNatClampNeg) X0 _ h) (cwV 2 hts gL_law_X5_clash rfl rfl rfl (by decide +kernel) ⟨Nat.le_of_ble_eq_true rfl, Nat.le_of_ble_eq_true rfl⟩) kX_0 rfl hK hN hP hD rfl hl.1 rfl (Nat.le_of_ble_eq_true rfl) dL_law_633 hc) hS (fun r1 X1 H locs h hP hD hS => ?_)
  refine lv_aload_n hx hb dL_law_636 rfl (lv_at hl 2 rfl) ?_
  refine lv_aload_n hx hb dL_law_637 rfl (lv_at hl 0 rfl) ?_
  refine lv_iload_n hx hb dL_law_638 rfl (lv_at hl 3 rfl) ?_
  refine lv_iconst (v := 1) hx hb dL_law_639 (by decide) ?_
  refine lv_iadd hx hb dL_law_640 ?_
  refine va_sld hx hb hX hbl hbA hS h1 dL_law_641 ?_
  refine lv_aload_n hx hb dL_law_642 rfl (lv_at hl 0 rfl) ?_
  refine lv_iload_n hx hb dL_law_643 rfl (lv_at hl 3 rfl) ?_
  refine lv_iconst (v := 2) hx hb dL_law_644 (by decide) ?_
  refine lv_iadd hx hb dL_law_645 ?_
  refine va_sld hx hb hX hbl hbA hS h2 dL_law_646 ?_
  have hP := va_P.swap (a := []) hP
  have hD := va_D.swap (a := []) hD
  refine zc_i (zc_runV (sh := shM) (N := 18) (ad := adM) (rs := wW shX 67 cc adX X1) (As := [.int (xs (x3 + 1).toNatClampNeg), .int (xs (x3 + 2).toNatClampNeg)]) (rest := [.int r1]) ⟨hx, hb, hml, hown, hts⟩ (c_X6_clash l D cc (fun q : Nat => s.heap.size ≤ q) adM (wW shX 67 cc adX X1) (xs (x3 + 1).toNatClampNeg) (xs (x3 + 2).toNatClampNeg) M0 _ h) (cwV 2 hts gL_law_X6_clash rfl rfl rfl (by decide +kernel) ⟨Nat.le_of_ble_eq_true rfl, Nat.le_of_ble_eq_true rfl⟩) kM_0 rfl hK hN hP hD rfl hl.1 rfl (Nat.le_of_ble_eq_true rfl) dL_law_647 hc) hS (fun r2 M1 H locs h hP hD hS => ?_)
  have hP := va_P.swap (a := []) hP
  have hD := va_D.swap (a := []) hD
  refine lv_icmp_eq (tgt := 1053) hx hb dL_law_650 (by decide) (fun c9 => ?_) (fun c9 => ?_)
  · exact kk X1 M1 H locs ls h.2 hP hD hS hl
  · exact absurd h.1 c9
set_option maxHeartbeats 4000000 in
set_option maxRecDepth 100000 in
theorem law_witness {p : Program} {l : Launch} {e : Env} {s : State} {m : MethodId} {below : List Frame} {meth : Method} {c : Code} {D : va_G} {cc : Nat → ClassId} {adX adM : Nat → Nat} {b L : Nat} {xs : Nat → Int32} {nc ns : Nat} {R : Mem → Mem → Prop} (C0 : lw_At p s m meth c b L xs) (hK : va_K D vwCl (tyL cc) s) (hN : NW s) (hc : nc ≤ room_1.cells ∧ ns ≤ room_1.slots) {X0 M0 : Mem} {x3 : Int32} (h1 : vp_in (x3 + 1) L) (h2 : vp_in (x3 + 2) L) (h3 : vp_in (x3 + 3) L) (h : f_X5_witness (xs (x3 + 1).toNatClampNeg) (xs (x3 + 2).toNatClampNeg) (xs (x3 + 3).toNatClampNeg) X0 (fun r1 X1 => f_X6_witness (xs (x3 + 1).toNatClampNeg) (xs (x3 + 2).toNatClampNeg) (xs (x3 + 3).toNatClampNeg) M0 (fun r2 M1 => r1 = r2 ∧ R X1 M1))) {H : Heap} {locs : List Loc} {ls : Array Slot} (hP : va_P D vwCl (wW shX 67 cc adX X0 ++ wW shM 18 cc adM M0) H) (hD : va_D (fun q : Nat => s.heap.size ≤ q) (wW shX 67 cc adX X0 ++ wW shM 18 cc adM M0)) (hS : va_S (fun q : Nat => s.heap.size ≤ q) s.heap H locs) (hl : lv_has ls 4 [(0, .ref b), (1, .ref (adX 0)), (2, .ref (adM 0)), (3, .int x3)])
    (kk : ∀ (X1 M1 : Mem) (H : Heap) (locs : List Loc) (ls : Array Slot), R X1 M1 → va_P D vwCl (wW shX 67 cc adX X1 ++ wW shM 18 cc adM M1) H → va_D (fun q : Nat => s.heap.size ≤ q) (wW shX 67 cc adX X1 ++ wW shM 18 cc adM M1) → va_S (fun q : Nat => s.heap.size ≤ q) s.heap H locs → lv_has ls 4 [(0, .ref b), (1, .ref (adX 0)), (2, .ref (adM 0)), (3, .int x3)] → W p l e room_1 s m #[Value.ref b] below meth c H locs nc ns (lw_Z below #[Value.ref b] s) (F0 m 1053 ls [])) : W p l e room_1 s m #[Value.ref b] below meth c H locs nc ns (lw_Z below #[Value.ref b] s) (F0 m 655 ls []) := by
  obtain ⟨hx, hb, hr, hml, hown, hts0, hX, hbl, hlocks, hgv⟩ := C0
  have hts : ∀ w ∈ wsL_law, w.before #[Value.ref b] s = true := fun w h => hts0 w (wsL_law_in w h)
  have hbA : ¬ (fun q : Nat => s.heap.size ≤ q) b := Nat.not_le.mpr hbl
  refine lv_aload_n hx hb dL_law_655 rfl (lv_at hl 1 rfl) ?_
  refine lv_aload_n hx hb dL_law_656 rfl (lv_at hl 0 rfl) ?_
  refine lv_iload_n hx hb dL_law_657 rfl (lv_at hl 3 rfl) ?_
  refine lv_iconst (v := 1) hx hb dL_law_658 (by decide) ?_
  refine lv_iadd hx hb dL_law_659 ?_
  refine va_sld hx hb hX hbl hbA hS h1 dL_law_660 ?_
  refine lv_aload_n hx hb dL_law_661 rfl (lv_at hl 0 rfl) ?_
  refine lv_iload_n hx hb dL_law_662 rfl (lv_at hl 3 rfl) ?_
  refine lv_iconst (v := 2) hx hb dL_law_663 (by decide) ?_
  refine lv_iadd hx hb dL_law_664 ?_
  refine va_sld hx hb hX hbl hbA hS h2 dL_law_665 ?_
  refine lv_aload_n hx hb dL_law_666 rfl (lv_at hl 0 rfl) ?_
  refine lv_iload_n hx hb dL_law_667 rfl (lv_at hl 3 rfl) ?_
  refine lv_iconst (v := 3) hx hb dL_law_668 (by decide) ?_
  refine lv_iadd hx hb dL_law_669 ?_
  refine va_sld hx hb hX hbl hbA hS h3 dL_law_670 ?_
  refine zc_i (zc_runV (sh := shX) (N := 67) (ad := adX) (rs := wW shM 18 cc adM M0) (As := [.int (xs (x3 + 1).toNatClampNeg), .int (xs (x3 + 2).toNatClampNeg), .int (xs (x3 + 3).toNatClampNeg)]) (rest := []) ⟨hx, hb, hml, hown, hts⟩ (c_X5_witness l D cc (fun q : Nat => s.heap.size ≤ q) adX (wW shM 18 cc adM M0) (xs (x3 + 1).toNatClampNeg) (xs (x3 + 2).toNatClampNeg) (xs (x3 + 3).toNatClampNeg) X0 _ h) (cwV 3 hts gL_law_X5_witness rfl rfl rfl (by decide +kernel) ⟨Nat.le_of_ble_eq_true rfl, Nat.le_of_ble_eq_true rfl⟩) kX_0 rfl hK hN hP hD rfl hl.1 rfl (Nat.le_of_ble_eq_true rfl) dL_law_671 hc) hS (fun r1 X1 H locs h hP hD hS => ?_)
  refine lv_aload_n hx hb dL_law_674 rfl (lv_at hl 2 rfl) ?_
  refine lv_aload_n hx hb dL_law_675 rfl (lv_at hl 0 rfl) ?_
  refine lv_iload_n hx hb dL_law_676 rfl (lv_at hl 3 rfl) ?_
  refine lv_iconst (v := 1) hx hb dL_law_677 (by decide) ?_
  refine lv_iadd hx hb dL_law_678 ?_
  refine va_sld hx hb hX hbl hbA hS h1 dL_law_679 ?_
  refine lv_aload_n hx hb dL_law_680 rfl (lv_at hl 0 rfl) ?_
  refine lv_iload_n hx hb dL_law_681 rfl (lv_at hl 3 rfl) ?_
  refine lv_iconst (v := 2) hx hb dL_law_682 (by decide) ?_
  refine lv_iadd hx hb dL_law_683 ?_
  refine va_sld hx hb hX hbl hbA hS h2 dL_law_684 ?_
  refine lv_aload_n hx hb dL_law_685 rfl (lv_at hl 0 rfl) ?_
  refine lv_iload_n hx hb dL_law_686 rfl (lv_at hl 3 rfl) ?_
  refine lv_iconst (v := 3) hx hb dL_law_687 (by decide) ?_
  refine lv_iadd hx hb dL_law_688 ?_
  refine va_sld hx hb hX hbl hbA hS h3 dL_law_689 ?_
  have hP := va_P.swap (a := []) hP
  have hD := va_D.swap (a := []) hD
  refine zc_i (zc_runV (sh := shM) (N := 18) (ad := adM) (rs := wW shX 67 cc adX X1) (As := [.int (xs (x3 + 1).toNatClampNeg), .int (xs (x3 + 2).toNatClampNeg), .int (xs (x3 + 3).toNatClampNeg)]) (rest := [.int r1]) ⟨hx, hb, hml, hown, hts⟩ (c_X6_witness l D cc (fun q : Nat => s.heap.size ≤ q) adM (wW shX 67 cc adX X1) (xs (x3 + 1).toNatClampNeg) (xs (x3 + 2).toNatClampNeg) (xs (x3 + 3).toNatClampNeg) M0 _ h) (cwV 3 hts gL_law_X6_witness rfl rfl rfl (by decide +kernel) ⟨Nat.le_of_ble_eq_true rfl, Nat.le_of_ble_eq_true rfl⟩) kM_0 rfl hK hN hP hD rfl hl.1 rfl (Nat.le_of_ble_eq_true rfl) dL_law_690 hc) hS (fun r2 M1 H locs h hP hD hS => ?_)
  have hP := va_P.swap (a := []) hP
  have hD := va_D.swap (a := []) hD
  refine lv_icmp_eq (tgt := 1053) hx hb dL_law_693 (by decide) (fun c9 => ?_) (fun c9 => ?_)
  · exact kk X1 M1 H locs ls h.2 hP hD hS hl
  · exact absurd h.1 c9
set_option maxHeartbeats 4000000 in
set_option maxRecDepth 100000 in
theorem law_clashes {p : Program} {l : Launch} {e : Env} {s : State} {m : MethodId} {below : List Frame} {meth : Method} {c : Code} {D : va_G} {cc : Nat → ClassId} {adX adM : Nat → Nat} {b L : Nat} {xs : Nat → Int32} {nc ns : Nat} {R : Mem → Mem → Prop} (C0 : lw_At p s m meth c b L xs) (hK : va_K D vwCl (tyL cc) s) (hN : NW s) (hc : nc ≤ room_1.cells ∧ ns ≤ room_1.slots) {X0 M0 : Mem} {x3 : Int32}  (h : f_X5_clashes  X0 (fun r1 X1 => f_X6_clashes  M0 (fun r2 M1 => r1 = r2 ∧ R X1 M1))) {H : Heap} {locs : List Loc} {ls : Array Slot} (hP : va_P D vwCl (wW shX 67 cc adX X0 ++ wW shM 18 cc adM M0) H) (hD : va_D (fun q : Nat => s.heap.size ≤ q) (wW shX 67 cc adX X0 ++ wW shM 18 cc adM M0)) (hS : va_S (fun q : Nat => s.heap.size ≤ q) s.heap H locs) (hl : lv_has ls 4 [(0, .ref b), (1, .ref (adX 0)), (2, .ref (adM 0)), (3, .int x3)])
    (kk : ∀ (X1 M1 : Mem) (H : Heap) (locs : List Loc) (ls : Array Slot), R X1 M1 → va_P D vwCl (wW shX 67 cc adX X1 ++ wW shM 18 cc adM M1) H → va_D (fun q : Nat => s.heap.size ≤ q) (wW shX 67 cc adX X1 ++ wW shM 18 cc adM M1) → va_S (fun q : Nat => s.heap.size ≤ q) s.heap H locs → lv_has ls 4 [(0, .ref b), (1, .ref (adX 0)), (2, .ref (adM 0)), (3, .int x3)] → W p l e room_1 s m #[Value.ref b] below meth c H locs nc ns (lw_Z below #[Value.ref b] s) (F0 m 1053 ls [])) : W p l e room_1 s m #[Value.ref b] below meth c H locs nc ns (lw_Z below #[Value.ref b] s) (F0 m 698 ls []) := by
  obtain ⟨hx, hb, hr, hml, hown, hts0, hX, hbl, hlocks, hgv⟩ := C0
  have hts : ∀ w ∈ wsL_law, w.before #[Value.ref b] s = true := fun w h => hts0 w (wsL_law_in w h)
  have hbA : ¬ (fun q : Nat => s.heap.size ≤ q) b := Nat.not_le.mpr hbl
  refine lv_aload_n hx hb dL_law_698 rfl (lv_at hl 1 rfl) ?_
  refine zc_i (zc_runV (sh := shX) (N := 67) (ad := adX) (rs := wW shM 18 cc adM M0) (As := []) (rest := []) ⟨hx, hb, hml, hown, hts⟩ (c_X5_clashes l D cc (fun q : Nat => s.heap.size ≤ q) adX (wW shM 18 cc adM M0)  X0 _ h) (cwV 0 hts gL_law_X5_clashes rfl rfl rfl (by decide +kernel) ⟨Nat.le_of_ble_eq_true rfl, Nat.le_of_ble_eq_true rfl⟩) kX_0 rfl hK hN hP hD rfl hl.1 rfl (Nat.le_of_ble_eq_true rfl) dL_law_699 hc) hS (fun r1 X1 H locs h hP hD hS => ?_)
  refine lv_aload_n hx hb dL_law_702 rfl (lv_at hl 2 rfl) ?_
  have hP := va_P.swap (a := []) hP
  have hD := va_D.swap (a := []) hD
  refine zc_i (zc_runV (sh := shM) (N := 18) (ad := adM) (rs := wW shX 67 cc adX X1) (As := []) (rest := [.int r1]) ⟨hx, hb, hml, hown, hts⟩ (c_X6_clashes l D cc (fun q : Nat => s.heap.size ≤ q) adM (wW shX 67 cc adX X1)  M0 _ h) (cwV 0 hts gL_law_X6_clashes rfl rfl rfl (by decide +kernel) ⟨Nat.le_of_ble_eq_true rfl, Nat.le_of_ble_eq_true rfl⟩) kM_0 rfl hK hN hP hD rfl hl.1 rfl (Nat.le_of_ble_eq_true rfl) dL_law_703 hc) hS (fun r2 M1 H locs h hP hD hS => ?_)
  have hP := va_P.swap (a := []) hP
  have hD := va_D.swap (a := []) hD
  refine lv_icmp_eq (tgt := 1053) hx hb dL_law_706 (by decide) (fun c9 => ?_) (fun c9 => ?_)
  · exact kk X1 M1 H locs ls h.2 hP hD hS hl
  · exact absurd h.1 c9
