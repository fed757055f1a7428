/-- a constructor's start: its object, fresh -/
def NCP (D : va_G) (cc : Nat → ClassId) (sz : Nat) (w : va_W) (U : State) : Prop := U.heap.size = sz ∧ va_P D vwCl w U.heap ∧ va_K D vwCl (tyL cc) U ∧ va_D (fun _ => True) w ∧ NC U
theorem NC_blind {D : va_G} {cc : Nat → ClassId} {sz : Nat} {w : va_W} {av : List Value} : FrameBlind (va_Pc av (NCP D cc sz w)) := fun a U g mk q => ⟨q.1, q.2.1, q.2.2.1, va_K.moved (u := U) (U := U.calling g mk a) (Vm.Alike.refl U.vm) q.2.2.2.1, q.2.2.2.2.1, NC.same (s := U) rfl q.2.2.2.2.2⟩
theorem cR_congr {cc : Nat → ClassId} {t n : Nat} {ad ad' g g' : Nat → Nat} (h : ∀ x, x < n → ad (g x) = ad' (g' x)) : cR cc t n ad g = cR cc t n ad' g' := by
  have e : (fun x => if x < n then some (ad (g x)) else none) = (fun x => if x < n then some (ad' (g' x)) else none) := by
    funext x
    by_cases hx : x < n
    · rw [if_pos hx, if_pos hx, h x hx]
    · rw [if_neg hx, if_neg hx]
  unfold cR
  rw [e]
theorem cR_of {cc : Nat → ClassId} {t n : Nat} {ad g r : Nat → Nat} (h : ∀ x, x < n → ad (g x) = r x) : cR cc t n ad g = .inl (cc t, n, .inr (.inr (.inr (.inr (fun i => if i < n then some (r i) else none))))) := cR_congr (ad' := r) (g' := fun x => x) h

set_option maxHeartbeats 4000000 in
set_option maxRecDepth 100000 in
theorem c_X4_init (l : Launch) (D : va_G) (cc : Nat → ClassId) (h0 sz : Nat) : Met l yX4_init wsX4_init ({ frames := 1, cells := 2, slots := 112, locals := 24 }) (va_Pc [.ref h0] (NCP D cc sz [(h0, .inr (4, [.null, .int 0, .null, .int 0, .int 0, .int 0, .int 0, .int 0, .int 0, .int 0]))])) (va_Qv (fun u : (Nat → Nat) × Mem => u.1 0 = h0 ∧ u.2 = zeroM) (fun u t => va_P D vwCl (wW shT 3 cc u.1 u.2) t.heap ∧ va_K D vwCl (tyL cc) t ∧ va_D (va_A [(h0, .inr (4, [.null, .int 0, .null, .int 0, .int 0, .int 0, .int 0, .int 0, .int 0, .int 0]))] sz) (wW shT 3 cc u.1 u.2)) (va_A [(h0, .inr (4, [.null, .int 0, .null, .int 0, .int 0, .int 0, .int 0, .int 0, .int 0, .int 0]))] sz)) 2 112 (va_A [(h0, .inr (4, [.null, .int 0, .null, .int 0, .int 0, .int 0, .int 0, .int 0, .int 0, .int 0]))] sz) := by
  refine Met.ofW (cc := cX4_init) (maxL := 1) (ret := none) (by decide) rfl ?_
  intro p e s m args below meth c s₁ BB hml hv
  obtain ⟨rfl, hsz, hP, hK, hD0, hNC⟩ := hv
  have hx := BB.exec
  have hb := BB.bytes
  have hr := BB.returns
  have hts := atoms_spec (ws := wsX4_init) BB.pre
  have hown : s.vm.findClass RX4 = some m.cls := findClass_of_methodNamed BB.named
  have hlocks := BB.notSynchronized
  have hin : meth.name = "<init>" := (name_of_methodNamed BB.named BB.method).1
  have hi_X4 : ∀ w ∈ u_ws RX4 TX4 10, w ∈ wsX4_init := by decide +kernel
  have hw0 := hts (.methodLink RX4 3 objectInit) (by decide +kernel)
  have hw1 := hts (.instanceMethod objectInit) (by decide +kernel)
  have hw2 := hts (.code objectInit ⟨#[0xb1]⟩ 1 none) (by decide +kernel)
  have hw3 := hts (.arrayClass .int) (by decide +kernel)
  have hw4 := hts (.fieldLink RX4 9 "FeatureClashes$Text" "bytes" "[I") (by decide +kernel)
  have hw5 := hts (.fieldLink RX4 15 "FeatureClashes$Text" "length" "I") (by decide +kernel)
  have hw6 := hts (.fieldLink RX4 19 "FeatureClashes$Text" "edits" "[I") (by decide +kernel)
  have hw7 := hts (.fieldLink RX4 22 "FeatureClashes$Text" "editCount" "I") (by decide +kernel)
  have hw8 := hts (.fieldLink RX4 25 "FeatureClashes$Text" "states" "I") (by decide +kernel)
  have hw9 := hts (.fieldLink RX4 28 "FeatureClashes$Text" "letters" "I") (by decide +kernel)
  have hw10 := hts (.fieldLink RX4 31 "FeatureClashes$Text" "step" "I") (by decide +kernel)
  have hw11 := hts (.fieldLink RX4 34 "FeatureClashes$Text" "state" "I") (by decide +kernel)
  have hw12 := hts (.fieldLink RX4 37 "FeatureClashes$Text" "cell" "I") (by decide +kernel)
  have hw13 := hts (.fieldLink RX4 40 "FeatureClashes$Text" "target" "I") (by decide +kernel)
  subst hsz
  have hD := hD0.self (sz := s.heap.size)
  generalize hAe : va_A [(h0, .inr (4, [.null, .int 0, .null, .int 0, .int 0, .int 0, .int 0, .int 0, .int 0, .int 0]))] s.heap.size = A at hD ⊢
  have hA : ∀ q : Nat, s.heap.size ≤ q → A q := fun q h => by rw [← hAe]; exact Or.inr h
  have hS : va_S A s.heap s.heap [] := va_S.rf
  have hP : va_P D vwCl [(h0, .inr (4, [.null, .int 0, .null, .int 0, .int 0, .int 0, .int 0, .int 0, .int 0, .int 0]))] s.heap := hP
  have hl := lv_entry ([.ref h0]) (n := 1) (Nat.le_of_ble_eq_true rfl)
  rw [lg_entry_eq]
  generalize (lg_sl ([.ref h0]) ++ List.replicate (1 - (lg_sl ([.ref h0])).length) Slot.unset).toArray = ls at hl ⊢
  have hl : lv_has ls 1 [(0, .ref h0)] := hl
  refine lv_aload_n hx hb dX4_init_0 rfl (lv_at hl 0 rfl) ?_
  refine W.objInit hx hb hown hw0 hw1 hw2 rfl (by rw [hml]; exact hl.1) rfl dX4_init_1 (Nat.le_of_ble_eq_true rfl) (Nat.le_of_ble_eq_true rfl) ?_
  refine W.eq (g2 := F0 m 4 ls []) rfl ?_
  refine lv_aload_n hx hb dX4_init_4 rfl (lv_at hl 0 rfl) ?_
  refine lv_bipush (v := 80) hx hb dX4_init_5 (by decide) ?_
  refine zn_newi (N' := 80) hx hb hw3 hK hP hD hS hA (by decide) (by decide) (Nat.le_of_ble_eq_true rfl) (Nat.le_of_ble_eq_true rfl) (Nat.le_of_ble_eq_true rfl) dX4_init_7 (fun q1 H hP hD hS => ?_)
  have hP : va_P D vwCl ((h0, .inr (4, [.null, .int 0, .null, .int 0, .int 0, .int 0, .int 0, .int 0, .int 0, .int 0])) :: ([] ++ [(q1, cI cc 80 (fun _ => 0))])) H := hP
  have hD : va_D A ((h0, .inr (4, [.null, .int 0, .null, .int 0, .int 0, .int 0, .int 0, .int 0, .int 0, .int 0])) :: ([] ++ [(q1, cI cc 80 (fun _ => 0))])) := hD
  refine W.widen (k := 1) (n := 80) (Nat.le_of_ble_eq_true rfl) (Nat.le_of_ble_eq_true rfl) ?_
  refine va_putF (D := D) (ci := 4) (v := .ref q1) (ty := .array .int) (C := RX4) (T := TX4) (N := 10) hx hb hts hi_X4 tyX4 tyX4_ok nmX4 hown hK hP hD hS 0 rfl rfl 0 (by decide) hw4 (fun _ h9 => h9) rfl hin rfl (by decide +kernel) rfl rfl (Nat.le_of_ble_eq_true rfl) dX4_init_9 (fun H locs hP hD hS => ?_)
  have hP : va_P D vwCl ((h0, .inr (4, [.ref q1, .int 0, .null, .int 0, .int 0, .int 0, .int 0, .int 0, .int 0, .int 0])) :: ([] ++ [(q1, cI cc 80 (fun _ => 0))])) H := hP
  have hD : va_D A ((h0, .inr (4, [.ref q1, .int 0, .null, .int 0, .int 0, .int 0, .int 0, .int 0, .int 0, .int 0])) :: ([] ++ [(q1, cI cc 80 (fun _ => 0))])) := hD
  refine lv_aload_n hx hb dX4_init_12 rfl (lv_at hl 0 rfl) ?_
  refine lv_iconst (v := 0) hx hb dX4_init_13 (by decide) ?_
  refine va_put (D := D) (ci := 4) (v := .int 0) (ty := .int) (C := RX4) (T := TX4) (N := 10) hx hb hts hi_X4 tyX4 tyX4_ok nmX4 hown hK hP hD hS 0 rfl rfl 1 (by decide) hw5 (fun _ h9 => h9) rfl (by decide +kernel) rfl rfl (Nat.le_of_ble_eq_true rfl) dX4_init_14 (fun H locs hP hD hS => ?_)
  have hP : va_P D vwCl ((h0, .inr (4, [.ref q1, .int 0, .null, .int 0, .int 0, .int 0, .int 0, .int 0, .int 0, .int 0])) :: ([] ++ [(q1, cI cc 80 (fun _ => 0))])) H := hP
  have hD : va_D A ((h0, .inr (4, [.ref q1, .int 0, .null, .int 0, .int 0, .int 0, .int 0, .int 0, .int 0, .int 0])) :: ([] ++ [(q1, cI cc 80 (fun _ => 0))])) := hD
  refine lv_aload_n hx hb dX4_init_17 rfl (lv_at hl 0 rfl) ?_
  refine lv_bipush (v := 32) hx hb dX4_init_18 (by decide) ?_
  refine zn_newi (N' := 32) hx hb hw3 hK hP hD hS hA (by decide) (by decide) (Nat.le_of_ble_eq_true rfl) (Nat.le_of_ble_eq_true rfl) (Nat.le_of_ble_eq_true rfl) dX4_init_20 (fun q2 H hP hD hS => ?_)
  have hP : va_P D vwCl ((h0, .inr (4, [.ref q1, .int 0, .null, .int 0, .int 0, .int 0, .int 0, .int 0, .int 0, .int 0])) :: (([] ++ [(q1, cI cc 80 (fun _ => 0))]) ++ [(q2, cI cc 32 (fun _ => 0))])) H := hP
  have hD : va_D A ((h0, .inr (4, [.ref q1, .int 0, .null, .int 0, .int 0, .int 0, .int 0, .int 0, .int 0, .int 0])) :: (([] ++ [(q1, cI cc 80 (fun _ => 0))]) ++ [(q2, cI cc 32 (fun _ => 0))])) := hD
  refine W.widen (k := 2) (n := 112) (Nat.le_of_ble_eq_true rfl) (Nat.le_of_ble_eq_true rfl) ?_
  refine va_putF (D := D) (ci := 4) (v := .ref q2) (ty := .array .int) (C := RX4) (T := TX4) (N := 10) hx hb hts hi_X4 tyX4 tyX4_ok nmX4 hown hK hP hD hS 0 rfl rfl 2 (by decide) hw6 (fun _ h9 => h9) rfl hin rfl (by decide +kernel) rfl rfl (Nat.le_of_ble_eq_true rfl) dX4_init_22 (fun H locs hP hD hS => ?_)
  have hP : va_P D vwCl ((h0, .inr (4, [.ref q1, .int 0, .ref q2, .int 0, .int 0, .int 0, .int 0, .int 0, .int 0, .int 0])) :: (([] ++ [(q1, cI cc 80 (fun _ => 0))]) ++ [(q2, cI cc 32 (fun _ => 0))])) H := hP
  have hD : va_D A ((h0, .inr (4, [.ref q1, .int 0, .ref q2, .int 0, .int 0, .int 0, .int 0, .int 0, .int 0, .int 0])) :: (([] ++ [(q1, cI cc 80 (fun _ => 0))]) ++ [(q2, cI cc 32 (fun _ => 0))])) := hD
  refine lv_aload_n hx hb dX4_init_25 rfl (lv_at hl 0 rfl) ?_
  refine lv_iconst (v := 0) hx hb dX4_init_26 (by decide) ?_
  refine va_put (D := D) (ci := 4) (v := .int 0) (ty := .int) (C := RX4) (T := TX4) (N := 10) hx hb hts hi_X4 tyX4 tyX4_ok nmX4 hown hK hP hD hS 0 rfl rfl 3 (by decide) hw7 (fun _ h9 => h9) rfl (by decide +kernel) rfl rfl (Nat.le_of_ble_eq_true rfl) dX4_init_27 (fun H locs hP hD hS => ?_)
  have hP : va_P D vwCl ((h0, .inr (4, [.ref q1, .int 0, .ref q2, .int 0, .int 0, .int 0, .int 0, .int 0, .int 0, .int 0])) :: (([] ++ [(q1, cI cc 80 (fun _ => 0))]) ++ [(q2, cI cc 32 (fun _ => 0))])) H := hP
  have hD : va_D A ((h0, .inr (4, [.ref q1, .int 0, .ref q2, .int 0, .int 0, .int 0, .int 0, .int 0, .int 0, .int 0])) :: (([] ++ [(q1, cI cc 80 (fun _ => 0))]) ++ [(q2, cI cc 32 (fun _ => 0))])) := hD
  refine lv_aload_n hx hb dX4_init_30 rfl (lv_at hl 0 rfl) ?_
  refine lv_iconst (v := 0) hx hb dX4_init_31 (by decide) ?_
  refine va_put (D := D) (ci := 4) (v := .int 0) (ty := .int) (C := RX4) (T := TX4) (N := 10) hx hb hts hi_X4 tyX4 tyX4_ok nmX4 hown hK hP hD hS 0 rfl rfl 4 (by decide) hw8 (fun _ h9 => h9) rfl (by decide +kernel) rfl rfl (Nat.le_of_ble_eq_true rfl) dX4_init_32 (fun H locs hP hD hS => ?_)
  have hP : va_P D vwCl ((h0, .inr (4, [.ref q1, .int 0, .ref q2, .int 0, .int 0, .int 0, .int 0, .int 0, .int 0, .int 0])) :: (([] ++ [(q1, cI cc 80 (fun _ => 0))]) ++ [(q2, cI cc 32 (fun _ => 0))])) H := hP
  have hD : va_D A ((h0, .inr (4, [.ref q1, .int 0, .ref q2, .int 0, .int 0, .int 0, .int 0, .int 0, .int 0, .int 0])) :: (([] ++ [(q1, cI cc 80 (fun _ => 0))]) ++ [(q2, cI cc 32 (fun _ => 0))])) := hD
  refine lv_aload_n hx hb dX4_init_35 rfl (lv_at hl 0 rfl) ?_
  refine lv_iconst (v := 0) hx hb dX4_init_36 (by decide) ?_
  refine va_put (D := D) (ci := 4) (v := .int 0) (ty := .int) (C := RX4) (T := TX4) (N := 10) hx hb hts hi_X4 tyX4 tyX4_ok nmX4 hown hK hP hD hS 0 rfl rfl 5 (by decide) hw9 (fun _ h9 => h9) rfl (by decide +kernel) rfl rfl (Nat.le_of_ble_eq_true rfl) dX4_init_37 (fun H locs hP hD hS => ?_)
  have hP : va_P D vwCl ((h0, .inr (4, [.ref q1, .int 0, .ref q2, .int 0, .int 0, .int 0, .int 0, .int 0, .int 0, .int 0])) :: (([] ++ [(q1, cI cc 80 (fun _ => 0))]) ++ [(q2, cI cc 32 (fun _ => 0))])) H := hP
  have hD : va_D A ((h0, .inr (4, [.ref q1, .int 0, .ref q2, .int 0, .int 0, .int 0, .int 0, .int 0, .int 0, .int 0])) :: (([] ++ [(q1, cI cc 80 (fun _ => 0))]) ++ [(q2, cI cc 32 (fun _ => 0))])) := hD
  refine lv_aload_n hx hb dX4_init_40 rfl (lv_at hl 0 rfl) ?_
  refine lv_iconst (v := 0) hx hb dX4_init_41 (by decide) ?_
  refine va_put (D := D) (ci := 4) (v := .int 0) (ty := .int) (C := RX4) (T := TX4) (N := 10) hx hb hts hi_X4 tyX4 tyX4_ok nmX4 hown hK hP hD hS 0 rfl rfl 6 (by decide) hw10 (fun _ h9 => h9) rfl (by decide +kernel) rfl rfl (Nat.le_of_ble_eq_true rfl) dX4_init_42 (fun H locs hP hD hS => ?_)
  have hP : va_P D vwCl ((h0, .inr (4, [.ref q1, .int 0, .ref q2, .int 0, .int 0, .int 0, .int 0, .int 0, .int 0, .int 0])) :: (([] ++ [(q1, cI cc 80 (fun _ => 0))]) ++ [(q2, cI cc 32 (fun _ => 0))])) H := hP
  have hD : va_D A ((h0, .inr (4, [.ref q1, .int 0, .ref q2, .int 0, .int 0, .int 0, .int 0, .int 0, .int 0, .int 0])) :: (([] ++ [(q1, cI cc 80 (fun _ => 0))]) ++ [(q2, cI cc 32 (fun _ => 0))])) := hD
  refine lv_aload_n hx hb dX4_init_45 rfl (lv_at hl 0 rfl) ?_
  refine lv_iconst (v := 0) hx hb dX4_init_46 (by decide) ?_
  refine va_put (D := D) (ci := 4) (v := .int 0) (ty := .int) (C := RX4) (T := TX4) (N := 10) hx hb hts hi_X4 tyX4 tyX4_ok nmX4 hown hK hP hD hS 0 rfl rfl 7 (by decide) hw11 (fun _ h9 => h9) rfl (by decide +kernel) rfl rfl (Nat.le_of_ble_eq_true rfl) dX4_init_47 (fun H locs hP hD hS => ?_)
  have hP : va_P D vwCl ((h0, .inr (4, [.ref q1, .int 0, .ref q2, .int 0, .int 0, .int 0, .int 0, .int 0, .int 0, .int 0])) :: (([] ++ [(q1, cI cc 80 (fun _ => 0))]) ++ [(q2, cI cc 32 (fun _ => 0))])) H := hP
  have hD : va_D A ((h0, .inr (4, [.ref q1, .int 0, .ref q2, .int 0, .int 0, .int 0, .int 0, .int 0, .int 0, .int 0])) :: (([] ++ [(q1, cI cc 80 (fun _ => 0))]) ++ [(q2, cI cc 32 (fun _ => 0))])) := hD
  refine lv_aload_n hx hb dX4_init_50 rfl (lv_at hl 0 rfl) ?_
  refine lv_iconst (v := 0) hx hb dX4_init_51 (by decide) ?_
  refine va_put (D := D) (ci := 4) (v := .int 0) (ty := .int) (C := RX4) (T := TX4) (N := 10) hx hb hts hi_X4 tyX4 tyX4_ok nmX4 hown hK hP hD hS 0 rfl rfl 8 (by decide) hw12 (fun _ h9 => h9) rfl (by decide +kernel) rfl rfl (Nat.le_of_ble_eq_true rfl) dX4_init_52 (fun H locs hP hD hS => ?_)
  have hP : va_P D vwCl ((h0, .inr (4, [.ref q1, .int 0, .ref q2, .int 0, .int 0, .int 0, .int 0, .int 0, .int 0, .int 0])) :: (([] ++ [(q1, cI cc 80 (fun _ => 0))]) ++ [(q2, cI cc 32 (fun _ => 0))])) H := hP
  have hD : va_D A ((h0, .inr (4, [.ref q1, .int 0, .ref q2, .int 0, .int 0, .int 0, .int 0, .int 0, .int 0, .int 0])) :: (([] ++ [(q1, cI cc 80 (fun _ => 0))]) ++ [(q2, cI cc 32 (fun _ => 0))])) := hD
  refine lv_aload_n hx hb dX4_init_55 rfl (lv_at hl 0 rfl) ?_
  refine lv_iconst (v := 0) hx hb dX4_init_56 (by decide) ?_
  refine va_put (D := D) (ci := 4) (v := .int 0) (ty := .int) (C := RX4) (T := TX4) (N := 10) hx hb hts hi_X4 tyX4 tyX4_ok nmX4 hown hK hP hD hS 0 rfl rfl 9 (by decide) hw13 (fun _ h9 => h9) rfl (by decide +kernel) rfl rfl (Nat.le_of_ble_eq_true rfl) dX4_init_57 (fun H locs hP hD hS => ?_)
  have hP : va_P D vwCl ((h0, .inr (4, [.ref q1, .int 0, .ref q2, .int 0, .int 0, .int 0, .int 0, .int 0, .int 0, .int 0])) :: (([] ++ [(q1, cI cc 80 (fun _ => 0))]) ++ [(q2, cI cc 32 (fun _ => 0))])) H := hP
  have hD : va_D A ((h0, .inr (4, [.ref q1, .int 0, .ref q2, .int 0, .int 0, .int 0, .int 0, .int 0, .int 0, .int 0])) :: (([] ++ [(q1, cI cc 80 (fun _ => 0))]) ++ [(q2, cI cc 32 (fun _ => 0))])) := hD
  have hP9 : va_P D vwCl (wW shT 3 cc (fun p => [h0, q1, q2].getD p 0) (zeroM)) H := hP
  have hD9 : va_D A (wW shT 3 cc (fun p => [h0, q1, q2].getD p 0) (zeroM)) := hD
  exact W.vret hx hb hr (fun t ht hW => ⟨⟨(fun p => [h0, q1, q2].getD p 0, zeroM), rfl, ⟨rfl, rfl⟩, by rw [ht]; exact hP9, va_K.moved hW.alike hK, hD9⟩, hS.F ht⟩) hS.2.2 dX4_init_60

set_option maxHeartbeats 4000000 in
set_option maxRecDepth 100000 in
theorem c_X0_init (l : Launch) (D : va_G) (cc : Nat → ClassId) (h0 sz : Nat) : Met l yX0_init wsX0_init ({ frames := 1, cells := 7, slots := 448, locals := 24 }) (va_Pc [.ref h0] (NCP D cc sz [(h0, .inr (0, [.int 0, .null, .null, .null, .null, .null, .null, .null, .int 0]))])) (va_Qv (fun u : (Nat → Nat) × Mem => u.1 0 = h0 ∧ u.2 = zeroM) (fun u t => va_P D vwCl (wW shD 8 cc u.1 u.2) t.heap ∧ va_K D vwCl (tyL cc) t ∧ va_D (va_A [(h0, .inr (0, [.int 0, .null, .null, .null, .null, .null, .null, .null, .int 0]))] sz) (wW shD 8 cc u.1 u.2)) (va_A [(h0, .inr (0, [.int 0, .null, .null, .null, .null, .null, .null, .null, .int 0]))] sz)) 7 448 (va_A [(h0, .inr (0, [.int 0, .null, .null, .null, .null, .null, .null, .null, .int 0]))] sz) := by
  refine Met.ofW (cc := cX0_init) (maxL := 1) (ret := none) (by decide) rfl ?_
  intro p e s m args below meth c s₁ BB hml hv
  obtain ⟨rfl, hsz, hP, hK, hD0, hNC⟩ := hv
  have hx := BB.exec
  have hb := BB.bytes
  have hr := BB.returns
  have hts := atoms_spec (ws := wsX0_init) BB.pre
  have hown : s.vm.findClass RX0 = some m.cls := findClass_of_methodNamed BB.named
  have hlocks := BB.notSynchronized
  have hin : meth.name = "<init>" := (name_of_methodNamed BB.named BB.method).1
  have hi_X0 : ∀ w ∈ u_ws RX0 TX0 9, w ∈ wsX0_init := by decide +kernel
  have hw0 := hts (.methodLink RX0 3 objectInit) (by decide +kernel)
  have hw1 := hts (.instanceMethod objectInit) (by decide +kernel)
  have hw2 := hts (.code objectInit ⟨#[0xb1]⟩ 1 none) (by decide +kernel)
  have hw3 := hts (.fieldLink RX0 9 "FeatureClashes$Difference" "length" "I") (by decide +kernel)
  have hw4 := hts (.arrayClass .int) (by decide +kernel)
  have hw5 := hts (.fieldLink RX0 15 "FeatureClashes$Difference" "letters" "[I") (by decide +kernel)
  have hw6 := hts (.fieldLink RX0 19 "FeatureClashes$Difference" "ones" "[I") (by decide +kernel)
  have hw7 := hts (.fieldLink RX0 22 "FeatureClashes$Difference" "twos" "[I") (by decide +kernel)
  have hw8 := hts (.fieldLink RX0 25 "FeatureClashes$Difference" "depths" "[I") (by decide +kernel)
  have hw9 := hts (.fieldLink RX0 28 "FeatureClashes$Difference" "parents" "[I") (by decide +kernel)
  have hw10 := hts (.fieldLink RX0 31 "FeatureClashes$Difference" "lastLetters" "[I") (by decide +kernel)
  have hw11 := hts (.arrayClass .boolean) (by decide +kernel)
  have hw12 := hts (.fieldLink RX0 34 "FeatureClashes$Difference" "met" "[Z") (by decide +kernel)
  have hw13 := hts (.fieldLink RX0 38 "FeatureClashes$Difference" "pairCount" "I") (by decide +kernel)
  subst hsz
  have hD := hD0.self (sz := s.heap.size)
  generalize hAe : va_A [(h0, .inr (0, [.int 0, .null, .null, .null, .null, .null, .null, .null, .int 0]))] s.heap.size = A at hD ⊢
  have hA : ∀ q : Nat, s.heap.size ≤ q → A q := fun q h => by rw [← hAe]; exact Or.inr h
  have hS : va_S A s.heap s.heap [] := va_S.rf
  have hP : va_P D vwCl [(h0, .inr (0, [.int 0, .null, .null, .null, .null, .null, .null, .null, .int 0]))] s.heap := hP
  have hl := lv_entry ([.ref h0]) (n := 1) (Nat.le_of_ble_eq_true rfl)
  rw [lg_entry_eq]
  generalize (lg_sl ([.ref h0]) ++ List.replicate (1 - (lg_sl ([.ref h0])).length) Slot.unset).toArray = ls at hl ⊢
  have hl : lv_has ls 1 [(0, .ref h0)] := hl
  refine lv_aload_n hx hb dX0_init_0 rfl (lv_at hl 0 rfl) ?_
  refine W.objInit hx hb hown hw0 hw1 hw2 rfl (by rw [hml]; exact hl.1) rfl dX0_init_1 (Nat.le_of_ble_eq_true rfl) (Nat.le_of_ble_eq_true rfl) ?_
  refine W.eq (g2 := F0 m 4 ls []) rfl ?_
  refine lv_aload_n hx hb dX0_init_4 rfl (lv_at hl 0 rfl) ?_
  refine lv_iconst (v := 0) hx hb dX0_init_5 (by decide) ?_
  refine va_put (D := D) (ci := 0) (v := .int 0) (ty := .int) (C := RX0) (T := TX0) (N := 9) hx hb hts hi_X0 tyX0 tyX0_ok nmX0 hown hK hP hD hS 0 rfl rfl 0 (by decide) hw3 (fun _ h9 => h9) rfl (by decide +kernel) rfl rfl (Nat.le_of_ble_eq_true rfl) dX0_init_6 (fun H locs hP hD hS => ?_)
  have hP : va_P D vwCl ((h0, .inr (0, [.int 0, .null, .null, .null, .null, .null, .null, .null, .int 0])) :: []) H := hP
  have hD : va_D A ((h0, .inr (0, [.int 0, .null, .null, .null, .null, .null, .null, .null, .int 0])) :: []) := hD
  refine lv_aload_n hx hb dX0_init_9 rfl (lv_at hl 0 rfl) ?_
  refine lv_bipush (v := 64) hx hb dX0_init_10 (by decide) ?_
  refine zn_newi (N' := 64) hx hb hw4 hK hP hD hS hA (by decide) (by decide) (Nat.le_of_ble_eq_true rfl) (Nat.le_of_ble_eq_true rfl) (Nat.le_of_ble_eq_true rfl) dX0_init_12 (fun q1 H hP hD hS => ?_)
  have hP : va_P D vwCl ((h0, .inr (0, [.int 0, .null, .null, .null, .null, .null, .null, .null, .int 0])) :: ([] ++ [(q1, cI cc 64 (fun _ => 0))])) H := hP
  have hD : va_D A ((h0, .inr (0, [.int 0, .null, .null, .null, .null, .null, .null, .null, .int 0])) :: ([] ++ [(q1, cI cc 64 (fun _ => 0))])) := hD
  refine W.widen (k := 1) (n := 64) (Nat.le_of_ble_eq_true rfl) (Nat.le_of_ble_eq_true rfl) ?_
  refine va_putF (D := D) (ci := 0) (v := .ref q1) (ty := .array .int) (C := RX0) (T := TX0) (N := 9) hx hb hts hi_X0 tyX0 tyX0_ok nmX0 hown hK hP hD hS 0 rfl rfl 1 (by decide) hw5 (fun _ h9 => h9) rfl hin rfl (by decide +kernel) rfl rfl (Nat.le_of_ble_eq_true rfl) dX0_init_14 (fun H locs hP hD hS => ?_)
  have hP : va_P D vwCl ((h0, .inr (0, [.int 0, .ref q1, .null, .null, .null, .null, .null, .null, .int 0])) :: ([] ++ [(q1, cI cc 64 (fun _ => 0))])) H := hP
  have hD : va_D A ((h0, .inr (0, [.int 0, .ref q1, .null, .null, .null, .null, .null, .null, .int 0])) :: ([] ++ [(q1, cI cc 64 (fun _ => 0))])) := hD
  refine lv_aload_n hx hb dX0_init_17 rfl (lv_at hl 0 rfl) ?_
  refine lv_bipush (v := 64) hx hb dX0_init_18 (by decide) ?_
  refine zn_newi (N' := 64) hx hb hw4 hK hP hD hS hA (by decide) (by decide) (Nat.le_of_ble_eq_true rfl) (Nat.le_of_ble_eq_true rfl) (Nat.le_of_ble_eq_true rfl) dX0_init_20 (fun q2 H hP hD hS => ?_)
  have hP : va_P D vwCl ((h0, .inr (0, [.int 0, .ref q1, .null, .null, .null, .null, .null, .null, .int 0])) :: (([] ++ [(q1, cI cc 64 (fun _ => 0))]) ++ [(q2, cI cc 64 (fun _ => 0))])) H := hP
  have hD : va_D A ((h0, .inr (0, [.int 0, .ref q1, .null, .null, .null, .null, .null, .null, .int 0])) :: (([] ++ [(q1, cI cc 64 (fun _ => 0))]) ++ [(q2, cI cc 64 (fun _ => 0))])) := hD
  refine W.widen (k := 2) (n := 128) (Nat.le_of_ble_eq_true rfl) (Nat.le_of_ble_eq_true rfl) ?_
  refine va_putF (D := D) (ci := 0) (v := .ref q2) (ty := .array .int) (C := RX0) (T := TX0) (N := 9) hx hb hts hi_X0 tyX0 tyX0_ok nmX0 hown hK hP hD hS 0 rfl rfl 2 (by decide) hw6 (fun _ h9 => h9) rfl hin rfl (by decide +kernel) rfl rfl (Nat.le_of_ble_eq_true rfl) dX0_init_22 (fun H locs hP hD hS => ?_)
  have hP : va_P D vwCl ((h0, .inr (0, [.int 0, .ref q1, .ref q2, .null, .null, .null, .null, .null, .int 0])) :: (([] ++ [(q1, cI cc 64 (fun _ => 0))]) ++ [(q2, cI cc 64 (fun _ => 0))])) H := hP
  have hD : va_D A ((h0, .inr (0, [.int 0, .ref q1, .ref q2, .null, .null, .null, .null, .null, .int 0])) :: (([] ++ [(q1, cI cc 64 (fun _ => 0))]) ++ [(q2, cI cc 64 (fun _ => 0))])) := hD
  refine lv_aload_n hx hb dX0_init_25 rfl (lv_at hl 0 rfl) ?_
  refine lv_bipush (v := 64) hx hb dX0_init_26 (by decide) ?_
  refine zn_newi (N' := 64) hx hb hw4 hK hP hD hS hA (by decide) (by decide) (Nat.le_of_ble_eq_true rfl) (Nat.le_of_ble_eq_true rfl) (Nat.le_of_ble_eq_true rfl) dX0_init_28 (fun q3 H hP hD hS => ?_)
  have hP : va_P D vwCl ((h0, .inr (0, [.int 0, .ref q1, .ref q2, .null, .null, .null, .null, .null, .int 0])) :: ((([] ++ [(q1, cI cc 64 (fun _ => 0))]) ++ [(q2, cI cc 64 (fun _ => 0))]) ++ [(q3, cI cc 64 (fun _ => 0))])) H := hP
  have hD : va_D A ((h0, .inr (0, [.int 0, .ref q1, .ref q2, .null, .null, .null, .null, .null, .int 0])) :: ((([] ++ [(q1, cI cc 64 (fun _ => 0))]) ++ [(q2, cI cc 64 (fun _ => 0))]) ++ [(q3, cI cc 64 (fun _ => 0))])) := hD
  refine W.widen (k := 3) (n := 192) (Nat.le_of_ble_eq_true rfl) (Nat.le_of_ble_eq_true rfl) ?_
  refine va_putF (D := D) (ci := 0) (v := .ref q3) (ty := .array .int) (C := RX0) (T := TX0) (N := 9) hx hb hts hi_X0 tyX0 tyX0_ok nmX0 hown hK hP hD hS 0 rfl rfl 3 (by decide) hw7 (fun _ h9 => h9) rfl hin rfl (by decide +kernel) rfl rfl (Nat.le_of_ble_eq_true rfl) dX0_init_30 (fun H locs hP hD hS => ?_)
  have hP : va_P D vwCl ((h0, .inr (0, [.int 0, .ref q1, .ref q2, .ref q3, .null, .null, .null, .null, .int 0])) :: ((([] ++ [(q1, cI cc 64 (fun _ => 0))]) ++ [(q2, cI cc 64 (fun _ => 0))]) ++ [(q3, cI cc 64 (fun _ => 0))])) H := hP
  have hD : va_D A ((h0, .inr (0, [.int 0, .ref q1, .ref q2, .ref q3, .null, .null, .null, .null, .int 0])) :: ((([] ++ [(q1, cI cc 64 (fun _ => 0))]) ++ [(q2, cI cc 64 (fun _ => 0))]) ++ [(q3, cI cc 64 (fun _ => 0))])) := hD
  refine lv_aload_n hx hb dX0_init_33 rfl (lv_at hl 0 rfl) ?_
  refine lv_bipush (v := 64) hx hb dX0_init_34 (by decide) ?_
  refine zn_newi (N' := 64) hx hb hw4 hK hP hD hS hA (by decide) (by decide) (Nat.le_of_ble_eq_true rfl) (Nat.le_of_ble_eq_true rfl) (Nat.le_of_ble_eq_true rfl) dX0_init_36 (fun q4 H hP hD hS => ?_)
  have hP : va_P D vwCl ((h0, .inr (0, [.int 0, .ref q1, .ref q2, .ref q3, .null, .null, .null, .null, .int 0])) :: (((([] ++ [(q1, cI cc 64 (fun _ => 0))]) ++ [(q2, cI cc 64 (fun _ => 0))]) ++ [(q3, cI cc 64 (fun _ => 0))]) ++ [(q4, cI cc 64 (fun _ => 0))])) H := hP
  have hD : va_D A ((h0, .inr (0, [.int 0, .ref q1, .ref q2, .ref q3, .null, .null, .null, .null, .int 0])) :: (((([] ++ [(q1, cI cc 64 (fun _ => 0))]) ++ [(q2, cI cc 64 (fun _ => 0))]) ++ [(q3, cI cc 64 (fun _ => 0))]) ++ [(q4, cI cc 64 (fun _ => 0))])) := hD
  refine W.widen (k := 4) (n := 256) (Nat.le_of_ble_eq_true rfl) (Nat.le_of_ble_eq_true rfl) ?_
  refine va_putF (D := D) (ci := 0) (v := .ref q4) (ty := .array .int) (C := RX0) (T := TX0) (N := 9) hx hb hts hi_X0 tyX0 tyX0_ok nmX0 hown hK hP hD hS 0 rfl rfl 4 (by decide) hw8 (fun _ h9 => h9) rfl hin rfl (by decide +kernel) rfl rfl (Nat.le_of_ble_eq_true rfl) dX0_init_38 (fun H locs hP hD hS => ?_)
  have hP : va_P D vwCl ((h0, .inr (0, [.int 0, .ref q1, .ref q2, .ref q3, .ref q4, .null, .null, .null, .int 0])) :: (((([] ++ [(q1, cI cc 64 (fun _ => 0))]) ++ [(q2, cI cc 64 (fun _ => 0))]) ++ [(q3, cI cc 64 (fun _ => 0))]) ++ [(q4, cI cc 64 (fun _ => 0))])) H := hP
  have hD : va_D A ((h0, .inr (0, [.int 0, .ref q1, .ref q2, .ref q3, .ref q4, .null, .null, .null, .int 0])) :: (((([] ++ [(q1, cI cc 64 (fun _ => 0))]) ++ [(q2, cI cc 64 (fun _ => 0))]) ++ [(q3, cI cc 64 (fun _ => 0))]) ++ [(q4, cI cc 64 (fun _ => 0))])) := hD
  refine lv_aload_n hx hb dX0_init_41 rfl (lv_at hl 0 rfl) ?_
  refine lv_bipush (v := 64) hx hb dX0_init_42 (by decide) ?_
  refine zn_newi (N' := 64) hx hb hw4 hK hP hD hS hA (by decide) (by decide) (Nat.le_of_ble_eq_true rfl) (Nat.le_of_ble_eq_true rfl) (Nat.le_of_ble_eq_true rfl) dX0_init_44 (fun q5 H hP hD hS => ?_)
  have hP : va_P D vwCl ((h0, .inr (0, [.int 0, .ref q1, .ref q2, .ref q3, .ref q4, .null, .null, .null, .int 0])) :: ((((([] ++ [(q1, cI cc 64 (fun _ => 0))]) ++ [(q2, cI cc 64 (fun _ => 0))]) ++ [(q3, cI cc 64 (fun _ => 0))]) ++ [(q4, cI cc 64 (fun _ => 0))]) ++ [(q5, cI cc 64 (fun _ => 0))])) H := hP
  have hD : va_D A ((h0, .inr (0, [.int 0, .ref q1, .ref q2, .ref q3, .ref q4, .null, .null, .null, .int 0])) :: ((((([] ++ [(q1, cI cc 64 (fun _ => 0))]) ++ [(q2, cI cc 64 (fun _ => 0))]) ++ [(q3, cI cc 64 (fun _ => 0))]) ++ [(q4, cI cc 64 (fun _ => 0))]) ++ [(q5, cI cc 64 (fun _ => 0))])) := hD
  refine W.widen (k := 5) (n := 320) (Nat.le_of_ble_eq_true rfl) (Nat.le_of_ble_eq_true rfl) ?_
  refine va_putF (D := D) (ci := 0) (v := .ref q5) (ty := .array .int) (C := RX0) (T := TX0) (N := 9) hx hb hts hi_X0 tyX0 tyX0_ok nmX0 hown hK hP hD hS 0 rfl rfl 5 (by decide) hw9 (fun _ h9 => h9) rfl hin rfl (by decide +kernel) rfl rfl (Nat.le_of_ble_eq_true rfl) dX0_init_46 (fun H locs hP hD hS => ?_)
  have hP : va_P D vwCl ((h0, .inr (0, [.int 0, .ref q1, .ref q2, .ref q3, .ref q4, .ref q5, .null, .null, .int 0])) :: ((((([] ++ [(q1, cI cc 64 (fun _ => 0))]) ++ [(q2, cI cc 64 (fun _ => 0))]) ++ [(q3, cI cc 64 (fun _ => 0))]) ++ [(q4, cI cc 64 (fun _ => 0))]) ++ [(q5, cI cc 64 (fun _ => 0))])) H := hP
  have hD : va_D A ((h0, .inr (0, [.int 0, .ref q1, .ref q2, .ref q3, .ref q4, .ref q5, .null, .null, .int 0])) :: ((((([] ++ [(q1, cI cc 64 (fun _ => 0))]) ++ [(q2, cI cc 64 (fun _ => 0))]) ++ [(q3, cI cc 64 (fun _ => 0))]) ++ [(q4, cI cc 64 (fun _ => 0))]) ++ [(q5, cI cc 64 (fun _ => 0))])) := hD
  refine lv_aload_n hx hb dX0_init_49 rfl (lv_at hl 0 rfl) ?_
  refine lv_bipush (v := 64) hx hb dX0_init_50 (by decide) ?_
  refine zn_newi (N' := 64) hx hb hw4 hK hP hD hS hA (by decide) (by decide) (Nat.le_of_ble_eq_true rfl) (Nat.le_of_ble_eq_true rfl) (Nat.le_of_ble_eq_true rfl) dX0_init_52 (fun q6 H hP hD hS => ?_)
  have hP : va_P D vwCl ((h0, .inr (0, [.int 0, .ref q1, .ref q2, .ref q3, .ref q4, .ref q5, .null, .null, .int 0])) :: (((((([] ++ [(q1, cI cc 64 (fun _ => 0))]) ++ [(q2, cI cc 64 (fun _ => 0))]) ++ [(q3, cI cc 64 (fun _ => 0))]) ++ [(q4, cI cc 64 (fun _ => 0))]) ++ [(q5, cI cc 64 (fun _ => 0))]) ++ [(q6, cI cc 64 (fun _ => 0))])) H := hP
  have hD : va_D A ((h0, .inr (0, [.int 0, .ref q1, .ref q2, .ref q3, .ref q4, .ref q5, .null, .null, .int 0])) :: (((((([] ++ [(q1, cI cc 64 (fun _ => 0))]) ++ [(q2, cI cc 64 (fun _ => 0))]) ++ [(q3, cI cc 64 (fun _ => 0))]) ++ [(q4, cI cc 64 (fun _ => 0))]) ++ [(q5, cI cc 64 (fun _ => 0))]) ++ [(q6, cI cc 64 (fun _ => 0))])) := hD
  refine W.widen (k := 6) (n := 384) (Nat.le_of_ble_eq_true rfl) (Nat.le_of_ble_eq_true rfl) ?_
  refine va_putF (D := D) (ci := 0) (v := .ref q6) (ty := .array .int) (C := RX0) (T := TX0) (N := 9) hx hb hts hi_X0 tyX0 tyX0_ok nmX0 hown hK hP hD hS 0 rfl rfl 6 (by decide) hw10 (fun _ h9 => h9) rfl hin rfl (by decide +kernel) rfl rfl (Nat.le_of_ble_eq_true rfl) dX0_init_54 (fun H locs hP hD hS => ?_)
  have hP : va_P D vwCl ((h0, .inr (0, [.int 0, .ref q1, .ref q2, .ref q3, .ref q4, .ref q5, .ref q6, .null, .int 0])) :: (((((([] ++ [(q1, cI cc 64 (fun _ => 0))]) ++ [(q2, cI cc 64 (fun _ => 0))]) ++ [(q3, cI cc 64 (fun _ => 0))]) ++ [(q4, cI cc 64 (fun _ => 0))]) ++ [(q5, cI cc 64 (fun _ => 0))]) ++ [(q6, cI cc 64 (fun _ => 0))])) H := hP
  have hD : va_D A ((h0, .inr (0, [.int 0, .ref q1, .ref q2, .ref q3, .ref q4, .ref q5, .ref q6, .null, .int 0])) :: (((((([] ++ [(q1, cI cc 64 (fun _ => 0))]) ++ [(q2, cI cc 64 (fun _ => 0))]) ++ [(q3, cI cc 64 (fun _ => 0))]) ++ [(q4, cI cc 64 (fun _ => 0))]) ++ [(q5, cI cc 64 (fun _ => 0))]) ++ [(q6, cI cc 64 (fun _ => 0))])) := hD
  refine lv_aload_n hx hb dX0_init_57 rfl (lv_at hl 0 rfl) ?_
  refine lv_bipush (v := 64) hx hb dX0_init_58 (by decide) ?_
  refine zn_newz (N' := 64) hx hb hw11 hK hP hD hS hA (by decide) (by decide) (Nat.le_of_ble_eq_true rfl) (Nat.le_of_ble_eq_true rfl) (Nat.le_of_ble_eq_true rfl) dX0_init_60 (fun q7 H hP hD hS => ?_)
  have hP : va_P D vwCl ((h0, .inr (0, [.int 0, .ref q1, .ref q2, .ref q3, .ref q4, .ref q5, .ref q6, .null, .int 0])) :: ((((((([] ++ [(q1, cI cc 64 (fun _ => 0))]) ++ [(q2, cI cc 64 (fun _ => 0))]) ++ [(q3, cI cc 64 (fun _ => 0))]) ++ [(q4, cI cc 64 (fun _ => 0))]) ++ [(q5, cI cc 64 (fun _ => 0))]) ++ [(q6, cI cc 64 (fun _ => 0))]) ++ [(q7, cZ cc 64 (fun _ => 0))])) H := hP
  have hD : va_D A ((h0, .inr (0, [.int 0, .ref q1, .ref q2, .ref q3, .ref q4, .ref q5, .ref q6, .null, .int 0])) :: ((((((([] ++ [(q1, cI cc 64 (fun _ => 0))]) ++ [(q2, cI cc 64 (fun _ => 0))]) ++ [(q3, cI cc 64 (fun _ => 0))]) ++ [(q4, cI cc 64 (fun _ => 0))]) ++ [(q5, cI cc 64 (fun _ => 0))]) ++ [(q6, cI cc 64 (fun _ => 0))]) ++ [(q7, cZ cc 64 (fun _ => 0))])) := hD
  refine W.widen (k := 7) (n := 448) (Nat.le_of_ble_eq_true rfl) (Nat.le_of_ble_eq_true rfl) ?_
  refine va_putF (D := D) (ci := 0) (v := .ref q7) (ty := .array .boolean) (C := RX0) (T := TX0) (N := 9) hx hb hts hi_X0 tyX0 tyX0_ok nmX0 hown hK hP hD hS 0 rfl rfl 7 (by decide) hw12 (fun _ h9 => h9) rfl hin rfl (by decide +kernel) rfl rfl (Nat.le_of_ble_eq_true rfl) dX0_init_62 (fun H locs hP hD hS => ?_)
  have hP : va_P D vwCl ((h0, .inr (0, [.int 0, .ref q1, .ref q2, .ref q3, .ref q4, .ref q5, .ref q6, .ref q7, .int 0])) :: ((((((([] ++ [(q1, cI cc 64 (fun _ => 0))]) ++ [(q2, cI cc 64 (fun _ => 0))]) ++ [(q3, cI cc 64 (fun _ => 0))]) ++ [(q4, cI cc 64 (fun _ => 0))]) ++ [(q5, cI cc 64 (fun _ => 0))]) ++ [(q6, cI cc 64 (fun _ => 0))]) ++ [(q7, cZ cc 64 (fun _ => 0))])) H := hP
  have hD : va_D A ((h0, .inr (0, [.int 0, .ref q1, .ref q2, .ref q3, .ref q4, .ref q5, .ref q6, .ref q7, .int 0])) :: ((((((([] ++ [(q1, cI cc 64 (fun _ => 0))]) ++ [(q2, cI cc 64 (fun _ => 0))]) ++ [(q3, cI cc 64 (fun _ => 0))]) ++ [(q4, cI cc 64 (fun _ => 0))]) ++ [(q5, cI cc 64 (fun _ => 0))]) ++ [(q6, cI cc 64 (fun _ => 0))]) ++ [(q7, cZ cc 64 (fun _ => 0))])) := hD
  refine lv_aload_n hx hb dX0_init_65 rfl (lv_at hl 0 rfl) ?_
  refine lv_iconst (v := 0) hx hb dX0_init_66 (by decide) ?_
  refine va_put (D := D) (ci := 0) (v := .int 0) (ty := .int) (C := RX0) (T := TX0) (N := 9) hx hb hts hi_X0 tyX0 tyX0_ok nmX0 hown hK hP hD hS 0 rfl rfl 8 (by decide) hw13 (fun _ h9 => h9) rfl (by decide +kernel) rfl rfl (Nat.le_of_ble_eq_true rfl) dX0_init_67 (fun H locs hP hD hS => ?_)
  have hP : va_P D vwCl ((h0, .inr (0, [.int 0, .ref q1, .ref q2, .ref q3, .ref q4, .ref q5, .ref q6, .ref q7, .int 0])) :: ((((((([] ++ [(q1, cI cc 64 (fun _ => 0))]) ++ [(q2, cI cc 64 (fun _ => 0))]) ++ [(q3, cI cc 64 (fun _ => 0))]) ++ [(q4, cI cc 64 (fun _ => 0))]) ++ [(q5, cI cc 64 (fun _ => 0))]) ++ [(q6, cI cc 64 (fun _ => 0))]) ++ [(q7, cZ cc 64 (fun _ => 0))])) H := hP
  have hD : va_D A ((h0, .inr (0, [.int 0, .ref q1, .ref q2, .ref q3, .ref q4, .ref q5, .ref q6, .ref q7, .int 0])) :: ((((((([] ++ [(q1, cI cc 64 (fun _ => 0))]) ++ [(q2, cI cc 64 (fun _ => 0))]) ++ [(q3, cI cc 64 (fun _ => 0))]) ++ [(q4, cI cc 64 (fun _ => 0))]) ++ [(q5, cI cc 64 (fun _ => 0))]) ++ [(q6, cI cc 64 (fun _ => 0))]) ++ [(q7, cZ cc 64 (fun _ => 0))])) := hD
  have hP9 : va_P D vwCl (wW shD 8 cc (fun p => [h0, q1, q2, q3, q4, q5, q6, q7].getD p 0) (zeroM)) H := hP
  have hD9 : va_D A (wW shD 8 cc (fun p => [h0, q1, q2, q3, q4, q5, q6, q7].getD p 0) (zeroM)) := hD
  exact W.vret hx hb hr (fun t ht hW => ⟨⟨(fun p => [h0, q1, q2, q3, q4, q5, q6, q7].getD p 0, zeroM), rfl, ⟨rfl, rfl⟩, by rw [ht]; exact hP9, va_K.moved hW.alike hK, hD9⟩, hS.F ht⟩) hS.2.2 dX0_init_70

set_option maxHeartbeats 4000000 in
set_option maxRecDepth 100000 in
theorem c_X3_init (l : Launch) (D : va_G) (cc : Nat → ClassId) (h0 sz : Nat) : Met l yX3_init wsX3_init ({ frames := 1, cells := 5, slots := 36, locals := 24 }) (va_Pc [.ref h0] (NCP D cc sz [(h0, .inr (3, [.null, .null, .null, .null, .null, .int 0]))])) (va_Qv (fun u : (Nat → Nat) × Mem => u.1 0 = h0 ∧ u.2 = zeroM) (fun u t => va_P D vwCl (wW shH 6 cc u.1 u.2) t.heap ∧ va_K D vwCl (tyL cc) t ∧ va_D (va_A [(h0, .inr (3, [.null, .null, .null, .null, .null, .int 0]))] sz) (wW shH 6 cc u.1 u.2)) (va_A [(h0, .inr (3, [.null, .null, .null, .null, .null, .int 0]))] sz)) 5 36 (va_A [(h0, .inr (3, [.null, .null, .null, .null, .null, .int 0]))] sz) := by
  refine Met.ofW (cc := cX3_init) (maxL := 1) (ret := none) (by decide) rfl ?_
  intro p e s m args below meth c s₁ BB hml hv
  obtain ⟨rfl, hsz, hP, hK, hD0, hNC⟩ := hv
  have hx := BB.exec
  have hb := BB.bytes
  have hr := BB.returns
  have hts := atoms_spec (ws := wsX3_init) BB.pre
  have hown : s.vm.findClass RX3 = some m.cls := findClass_of_methodNamed BB.named
  have hlocks := BB.notSynchronized
  have hin : meth.name = "<init>" := (name_of_methodNamed BB.named BB.method).1
  have hi_X3 : ∀ w ∈ u_ws RX3 TX3 6, w ∈ wsX3_init := by decide +kernel
  have hw0 := hts (.methodLink RX3 5 objectInit) (by decide +kernel)
  have hw1 := hts (.instanceMethod objectInit) (by decide +kernel)
  have hw2 := hts (.code objectInit ⟨#[0xb1]⟩ 1 none) (by decide +kernel)
  have hw3 := hts (.arrayClass .long) (by decide +kernel)
  have hw4 := hts (.fieldLink RX3 11 "FeatureClashes$Shape" "form" "[J") (by decide +kernel)
  have hw5 := hts (.arrayClass .int) (by decide +kernel)
  have hw6 := hts (.fieldLink RX3 15 "FeatureClashes$Shape" "groups" "[I") (by decide +kernel)
  have hw7 := hts (.fieldLink RX3 19 "FeatureClashes$Shape" "signatures" "[I") (by decide +kernel)
  have hw8 := hts (.fieldLink RX3 22 "FeatureClashes$Shape" "numbers" "[I") (by decide +kernel)
  have hw9 := hts (.fieldLink RX3 25 "FeatureClashes$Shape" "leaders" "[I") (by decide +kernel)
  have hw10 := hts (.fieldLink RX3 28 "FeatureClashes$Shape" "numberCount" "I") (by decide +kernel)
  subst hsz
  have hD := hD0.self (sz := s.heap.size)
  generalize hAe : va_A [(h0, .inr (3, [.null, .null, .null, .null, .null, .int 0]))] s.heap.size = A at hD ⊢
  have hA : ∀ q : Nat, s.heap.size ≤ q → A q := fun q h => by rw [← hAe]; exact Or.inr h
  have hS : va_S A s.heap s.heap [] := va_S.rf
  have hP : va_P D vwCl [(h0, .inr (3, [.null, .null, .null, .null, .null, .int 0]))] s.heap := hP
  have hl := lv_entry ([.ref h0]) (n := 1) (Nat.le_of_ble_eq_true rfl)
  rw [lg_entry_eq]
  generalize (lg_sl ([.ref h0]) ++ List.replicate (1 - (lg_sl ([.ref h0])).length) Slot.unset).toArray = ls at hl ⊢
  have hl : lv_has ls 1 [(0, .ref h0)] := hl
  refine lv_aload_n hx hb dX3_init_0 rfl (lv_at hl 0 rfl) ?_
  refine W.objInit hx hb hown hw0 hw1 hw2 rfl (by rw [hml]; exact hl.1) rfl dX3_init_1 (Nat.le_of_ble_eq_true rfl) (Nat.le_of_ble_eq_true rfl) ?_
  refine W.eq (g2 := F0 m 4 ls []) rfl ?_
  refine lv_aload_n hx hb dX3_init_4 rfl (lv_at hl 0 rfl) ?_
  refine lv_iconst (v := 4) hx hb dX3_init_5 (by decide) ?_
  refine zn_newj (N' := 4) hx hb hw3 hK hP hD hS hA (by decide) (by decide) (Nat.le_of_ble_eq_true rfl) (Nat.le_of_ble_eq_true rfl) (Nat.le_of_ble_eq_true rfl) dX3_init_6 (fun q1 H hP hD hS => ?_)
  have hP : va_P D vwCl ((h0, .inr (3, [.null, .null, .null, .null, .null, .int 0])) :: ([] ++ [(q1, cJ cc 4 (fun _ => 0))])) H := hP
  have hD : va_D A ((h0, .inr (3, [.null, .null, .null, .null, .null, .int 0])) :: ([] ++ [(q1, cJ cc 4 (fun _ => 0))])) := hD
  refine W.widen (k := 1) (n := 4) (Nat.le_of_ble_eq_true rfl) (Nat.le_of_ble_eq_true rfl) ?_
  refine va_putF (D := D) (ci := 3) (v := .ref q1) (ty := .array .long) (C := RX3) (T := TX3) (N := 6) hx hb hts hi_X3 tyX3 tyX3_ok nmX3 hown hK hP hD hS 0 rfl rfl 0 (by decide) hw4 (fun _ h9 => h9) rfl hin rfl (by decide +kernel) rfl rfl (Nat.le_of_ble_eq_true rfl) dX3_init_8 (fun H locs hP hD hS => ?_)
  have hP : va_P D vwCl ((h0, .inr (3, [.ref q1, .null, .null, .null, .null, .int 0])) :: ([] ++ [(q1, cJ cc 4 (fun _ => 0))])) H := hP
  have hD : va_D A ((h0, .inr (3, [.ref q1, .null, .null, .null, .null, .int 0])) :: ([] ++ [(q1, cJ cc 4 (fun _ => 0))])) := hD
  refine lv_aload_n hx hb dX3_init_11 rfl (lv_at hl 0 rfl) ?_
  refine lv_bipush (v := 8) hx hb dX3_init_12 (by decide) ?_
  refine zn_newi (N' := 8) hx hb hw5 hK hP hD hS hA (by decide) (by decide) (Nat.le_of_ble_eq_true rfl) (Nat.le_of_ble_eq_true rfl) (Nat.le_of_ble_eq_true rfl) dX3_init_14 (fun q2 H hP hD hS => ?_)
  have hP : va_P D vwCl ((h0, .inr (3, [.ref q1, .null, .null, .null, .null, .int 0])) :: (([] ++ [(q1, cJ cc 4 (fun _ => 0))]) ++ [(q2, cI cc 8 (fun _ => 0))])) H := hP
  have hD : va_D A ((h0, .inr (3, [.ref q1, .null, .null, .null, .null, .int 0])) :: (([] ++ [(q1, cJ cc 4 (fun _ => 0))]) ++ [(q2, cI cc 8 (fun _ => 0))])) := hD
  refine W.widen (k := 2) (n := 12) (Nat.le_of_ble_eq_true rfl) (Nat.le_of_ble_eq_true rfl) ?_
  refine va_putF (D := D) (ci := 3) (v := .ref q2) (ty := .array .int) (C := RX3) (T := TX3) (N := 6) hx hb hts hi_X3 tyX3 tyX3_ok nmX3 hown hK hP hD hS 0 rfl rfl 1 (by decide) hw6 (fun _ h9 => h9) rfl hin rfl (by decide +kernel) rfl rfl (Nat.le_of_ble_eq_true rfl) dX3_init_16 (fun H locs hP hD hS => ?_)
  have hP : va_P D vwCl ((h0, .inr (3, [.ref q1, .ref q2, .null, .null, .null, .int 0])) :: (([] ++ [(q1, cJ cc 4 (fun _ => 0))]) ++ [(q2, cI cc 8 (fun _ => 0))])) H := hP
  have hD : va_D A ((h0, .inr (3, [.ref q1, .ref q2, .null, .null, .null, .int 0])) :: (([] ++ [(q1, cJ cc 4 (fun _ => 0))]) ++ [(q2, cI cc 8 (fun _ => 0))])) := hD
  refine lv_aload_n hx hb dX3_init_19 rfl (lv_at hl 0 rfl) ?_
  refine lv_bipush (v := 8) hx hb dX3_init_20 (by decide) ?_
  refine zn_newi (N' := 8) hx hb hw5 hK hP hD hS hA (by decide) (by decide) (Nat.le_of_ble_eq_true rfl) (Nat.le_of_ble_eq_true rfl) (Nat.le_of_ble_eq_true rfl) dX3_init_22 (fun q3 H hP hD hS => ?_)
  have hP : va_P D vwCl ((h0, .inr (3, [.ref q1, .ref q2, .null, .null, .null, .int 0])) :: ((([] ++ [(q1, cJ cc 4 (fun _ => 0))]) ++ [(q2, cI cc 8 (fun _ => 0))]) ++ [(q3, cI cc 8 (fun _ => 0))])) H := hP
  have hD : va_D A ((h0, .inr (3, [.ref q1, .ref q2, .null, .null, .null, .int 0])) :: ((([] ++ [(q1, cJ cc 4 (fun _ => 0))]) ++ [(q2, cI cc 8 (fun _ => 0))]) ++ [(q3, cI cc 8 (fun _ => 0))])) := hD
  refine W.widen (k := 3) (n := 20) (Nat.le_of_ble_eq_true rfl) (Nat.le_of_ble_eq_true rfl) ?_
  refine va_putF (D := D) (ci := 3) (v := .ref q3) (ty := .array .int) (C := RX3) (T := TX3) (N := 6) hx hb hts hi_X3 tyX3 tyX3_ok nmX3 hown hK hP hD hS 0 rfl rfl 2 (by decide) hw7 (fun _ h9 => h9) rfl hin rfl (by decide +kernel) rfl rfl (Nat.le_of_ble_eq_true rfl) dX3_init_24 (fun H locs hP hD hS => ?_)
  have hP : va_P D vwCl ((h0, .inr (3, [.ref q1, .ref q2, .ref q3, .null, .null, .int 0])) :: ((([] ++ [(q1, cJ cc 4 (fun _ => 0))]) ++ [(q2, cI cc 8 (fun _ => 0))]) ++ [(q3, cI cc 8 (fun _ => 0))])) H := hP
  have hD : va_D A ((h0, .inr (3, [.ref q1, .ref q2, .ref q3, .null, .null, .int 0])) :: ((([] ++ [(q1, cJ cc 4 (fun _ => 0))]) ++ [(q2, cI cc 8 (fun _ => 0))]) ++ [(q3, cI cc 8 (fun _ => 0))])) := hD
  refine lv_aload_n hx hb dX3_init_27 rfl (lv_at hl 0 rfl) ?_
  refine lv_bipush (v := 8) hx hb dX3_init_28 (by decide) ?_
  refine zn_newi (N' := 8) hx hb hw5 hK hP hD hS hA (by decide) (by decide) (Nat.le_of_ble_eq_true rfl) (Nat.le_of_ble_eq_true rfl) (Nat.le_of_ble_eq_true rfl) dX3_init_30 (fun q4 H hP hD hS => ?_)
  have hP : va_P D vwCl ((h0, .inr (3, [.ref q1, .ref q2, .ref q3, .null, .null, .int 0])) :: (((([] ++ [(q1, cJ cc 4 (fun _ => 0))]) ++ [(q2, cI cc 8 (fun _ => 0))]) ++ [(q3, cI cc 8 (fun _ => 0))]) ++ [(q4, cI cc 8 (fun _ => 0))])) H := hP
  have hD : va_D A ((h0, .inr (3, [.ref q1, .ref q2, .ref q3, .null, .null, .int 0])) :: (((([] ++ [(q1, cJ cc 4 (fun _ => 0))]) ++ [(q2, cI cc 8 (fun _ => 0))]) ++ [(q3, cI cc 8 (fun _ => 0))]) ++ [(q4, cI cc 8 (fun _ => 0))])) := hD
  refine W.widen (k := 4) (n := 28) (Nat.le_of_ble_eq_true rfl) (Nat.le_of_ble_eq_true rfl) ?_
  refine va_putF (D := D) (ci := 3) (v := .ref q4) (ty := .array .int) (C := RX3) (T := TX3) (N := 6) hx hb hts hi_X3 tyX3 tyX3_ok nmX3 hown hK hP hD hS 0 rfl rfl 3 (by decide) hw8 (fun _ h9 => h9) rfl hin rfl (by decide +kernel) rfl rfl (Nat.le_of_ble_eq_true rfl) dX3_init_32 (fun H locs hP hD hS => ?_)
  have hP : va_P D vwCl ((h0, .inr (3, [.ref q1, .ref q2, .ref q3, .ref q4, .null, .int 0])) :: (((([] ++ [(q1, cJ cc 4 (fun _ => 0))]) ++ [(q2, cI cc 8 (fun _ => 0))]) ++ [(q3, cI cc 8 (fun _ => 0))]) ++ [(q4, cI cc 8 (fun _ => 0))])) H := hP
  have hD : va_D A ((h0, .inr (3, [.ref q1, .ref q2, .ref q3, .ref q4, .null, .int 0])) :: (((([] ++ [(q1, cJ cc 4 (fun _ => 0))]) ++ [(q2, cI cc 8 (fun _ => 0))]) ++ [(q3, cI cc 8 (fun _ => 0))]) ++ [(q4, cI cc 8 (fun _ => 0))])) := hD
  refine lv_aload_n hx hb dX3_init_35 rfl (lv_at hl 0 rfl) ?_
  refine lv_bipush (v := 8) hx hb dX3_init_36 (by decide) ?_
  refine zn_newi (N' := 8) hx hb hw5 hK hP hD hS hA (by decide) (by decide) (Nat.le_of_ble_eq_true rfl) (Nat.le_of_ble_eq_true rfl) (Nat.le_of_ble_eq_true rfl) dX3_init_38 (fun q5 H hP hD hS => ?_)
  have hP : va_P D vwCl ((h0, .inr (3, [.ref q1, .ref q2, .ref q3, .ref q4, .null, .int 0])) :: ((((([] ++ [(q1, cJ cc 4 (fun _ => 0))]) ++ [(q2, cI cc 8 (fun _ => 0))]) ++ [(q3, cI cc 8 (fun _ => 0))]) ++ [(q4, cI cc 8 (fun _ => 0))]) ++ [(q5, cI cc 8 (fun _ => 0))])) H := hP
  have hD : va_D A ((h0, .inr (3, [.ref q1, .ref q2, .ref q3, .ref q4, .null, .int 0])) :: ((((([] ++ [(q1, cJ cc 4 (fun _ => 0))]) ++ [(q2, cI cc 8 (fun _ => 0))]) ++ [(q3, cI cc 8 (fun _ => 0))]) ++ [(q4, cI cc 8 (fun _ => 0))]) ++ [(q5, cI cc 8 (fun _ => 0))])) := hD
  refine W.widen (k := 5) (n := 36) (Nat.le_of_ble_eq_true rfl) (Nat.le_of_ble_eq_true rfl) ?_
  refine va_putF (D := D) (ci := 3) (v := .ref q5) (ty := .array .int) (C := RX3) (T := TX3) (N := 6) hx hb hts hi_X3 tyX3 tyX3_ok nmX3 hown hK hP hD hS 0 rfl rfl 4 (by decide) hw9 (fun _ h9 => h9) rfl hin rfl (by decide +kernel) rfl rfl (Nat.le_of_ble_eq_true rfl) dX3_init_40 (fun H locs hP hD hS => ?_)
  have hP : va_P D vwCl ((h0, .inr (3, [.ref q1, .ref q2, .ref q3, .ref q4, .ref q5, .int 0])) :: ((((([] ++ [(q1, cJ cc 4 (fun _ => 0))]) ++ [(q2, cI cc 8 (fun _ => 0))]) ++ [(q3, cI cc 8 (fun _ => 0))]) ++ [(q4, cI cc 8 (fun _ => 0))]) ++ [(q5, cI cc 8 (fun _ => 0))])) H := hP
  have hD : va_D A ((h0, .inr (3, [.ref q1, .ref q2, .ref q3, .ref q4, .ref q5, .int 0])) :: ((((([] ++ [(q1, cJ cc 4 (fun _ => 0))]) ++ [(q2, cI cc 8 (fun _ => 0))]) ++ [(q3, cI cc 8 (fun _ => 0))]) ++ [(q4, cI cc 8 (fun _ => 0))]) ++ [(q5, cI cc 8 (fun _ => 0))])) := hD
  refine lv_aload_n hx hb dX3_init_43 rfl (lv_at hl 0 rfl) ?_
  refine lv_iconst (v := 0) hx hb dX3_init_44 (by decide) ?_
  refine va_put (D := D) (ci := 3) (v := .int 0) (ty := .int) (C := RX3) (T := TX3) (N := 6) hx hb hts hi_X3 tyX3 tyX3_ok nmX3 hown hK hP hD hS 0 rfl rfl 5 (by decide) hw10 (fun _ h9 => h9) rfl (by decide +kernel) rfl rfl (Nat.le_of_ble_eq_true rfl) dX3_init_45 (fun H locs hP hD hS => ?_)
  have hP : va_P D vwCl ((h0, .inr (3, [.ref q1, .ref q2, .ref q3, .ref q4, .ref q5, .int 0])) :: ((((([] ++ [(q1, cJ cc 4 (fun _ => 0))]) ++ [(q2, cI cc 8 (fun _ => 0))]) ++ [(q3, cI cc 8 (fun _ => 0))]) ++ [(q4, cI cc 8 (fun _ => 0))]) ++ [(q5, cI cc 8 (fun _ => 0))])) H := hP
  have hD : va_D A ((h0, .inr (3, [.ref q1, .ref q2, .ref q3, .ref q4, .ref q5, .int 0])) :: ((((([] ++ [(q1, cJ cc 4 (fun _ => 0))]) ++ [(q2, cI cc 8 (fun _ => 0))]) ++ [(q3, cI cc 8 (fun _ => 0))]) ++ [(q4, cI cc 8 (fun _ => 0))]) ++ [(q5, cI cc 8 (fun _ => 0))])) := hD
  have hP9 : va_P D vwCl (wW shH 6 cc (fun p => [h0, q1, q2, q3, q4, q5].getD p 0) (zeroM)) H := hP
  have hD9 : va_D A (wW shH 6 cc (fun p => [h0, q1, q2, q3, q4, q5].getD p 0) (zeroM)) := hD
  exact W.vret hx hb hr (fun t ht hW => ⟨⟨(fun p => [h0, q1, q2, q3, q4, q5].getD p 0, zeroM), rfl, ⟨rfl, rfl⟩, by rw [ht]; exact hP9, va_K.moved hW.alike hK, hD9⟩, hS.F ht⟩) hS.2.2 dX3_init_48

def memS : Mem := (fun p k => if p = 0 then [2, 2, 0, 0].getD k 0 else 0, fun _ _ => 0)
def adS (h0 q1 q2 : Nat) (r : Nat → Nat) (q9 : Nat) : Nat → Nat := fun p => if p = 0 then h0 else if p = 1 then q1 else if p = 2 then q2 else if p < 9 then r (p - 3) else q9
theorem blkS (cc : Nat → ClassId) (h0 q1 q2 : Nat) (r : Nat → Nat) (q9 : Nat) : ((h0, .inr (2, [.int 2, .int 2, .int 0, .int 0, .ref q1, .ref q2, .ref q9])) :: (((([] ++ [(q1, cI cc 32 (fun _ => 0))]) ++ [(q2, .inl (cc 4, 6, .inr (.inr (.inr (.inr (fun i => if i < 6 then some (r i) else none))))))]) ++ (List.range 6).map (fun i => (r i, cI cc 32 (fun _ => 0)))) ++ [(q9, cI cc 6 (fun _ => 0))]) : va_W) = wW shS 10 cc (adS h0 q1 q2 r q9) memS ++ [] := by
  rw [← cR_of (cc := cc) (t := 4) (n := 6) (ad := adS h0 q1 q2 r q9) (g := fun x => 0 + 3 + x) (r := r) (fun x hx => by unfold adS; rw [if_neg (by omega), if_neg (by omega), if_neg (by omega), if_pos (by omega), show 0 + 3 + x - 3 = x by omega])]
  rfl

set_option maxHeartbeats 4000000 in
set_option maxRecDepth 100000 in
theorem cS_J7_fill_53178 (l : Launch) (D : va_G) (cc : Nat → ClassId) (A : Nat → Prop) (ad : Nat → Nat) (rs : va_W) (p0 : Nat) (n0 : Nat) (hp0 : isI shS 10 p0 n0) (x1 : Int32) (μ : Mem) (K : Mem → Prop) (h : f_J7_fill_53178 p0 n0 x1 μ K) : Met l yJ7_fill_53178 wsJ7_fill_53178 ({ frames := 0, cells := 0, slots := 0, locals := 0 }) (va_Pc [.ref (ad p0), .int x1] (PW shS 10 D cc A ad rs μ)) (va_Qv K (PW shS 10 D cc A ad rs) A) 0 0 A := by
  refine Met.ofW (cc := cJ7_fill_53178) (maxL := 4) (ret := none) (by decide) rfl ?_
  intro p e s m args below meth c s₁ BB hml hv
  obtain ⟨rfl, hP, hK, hD, hN⟩ := hv
  have hx := BB.exec
  have hb := BB.bytes
  have hr := BB.returns
  have hts := atoms_spec (ws := wsJ7_fill_53178) BB.pre
  have hown : s.vm.findClass RJ7 = some m.cls := findClass_of_methodNamed BB.named
  have hlocks := BB.notSynchronized
  have hS : va_S A s.heap s.heap [] := va_S.rf
  have hl := lv_entry ([.ref (ad p0), .int x1]) (n := 4) (Nat.le_of_ble_eq_true rfl)
  rw [lg_entry_eq]
  generalize (lg_sl ([.ref (ad p0), .int x1]) ++ List.replicate (4 - (lg_sl ([.ref (ad p0), .int x1])).length) Slot.unset).toArray = ls at hl ⊢
  have hl : lv_has ls 4 [(0, .ref (ad p0)), (1, .int x1)] := hl
  unfold f_J7_fill_53178 at h
  refine (fun h => ?main) (h (fun b1 b2 b3 μ => ∀ (H1 : Heap) (locs : List Loc) (ls : Array Slot), va_P D vwCl (wW shS 10 cc ad μ ++ rs) H1 → va_D A (wW shS 10 cc ad μ ++ rs) → va_S A s.heap H1 locs → lv_has ls 4 [(0, .ref (ad p0)), (1, .int b1), (2, .int b2), (3, .int b3)] → W p l e (headSpec wsJ7_fill_53178 ({ frames := 0, cells := 0, slots := 0, locals := 0 })).room s m ([.ref (ad p0), .int x1] : List Value).toArray below meth c H1 locs 0 0 (MQ below (va_Qv K (PW shS 10 D cc A ad rs) A) ([.ref (ad p0), .int x1] : List Value).toArray s 0 0 A) (F0 m 5 ls ([]))) ?b5)
  case main =>
      refine lv_iconst (v := 0) hx hb dJ7_fill_53178_0 (by decide) ?_
      refine lv_istore_n (lv' := [(2, .int 0), (0, .ref (ad p0)), (1, .int x1)]) hx hb dJ7_fill_53178_1 rfl hl (by decide) rfl (fun ls hl => ?_)
      refine lv_aload_n hx hb dJ7_fill_53178_2 rfl (lv_at hl 1 rfl) ?_
      refine zw_alen hx hb hK hP hp0 dJ7_fill_53178_3 ?_
      refine lv_topi (fun y1 ey1 => ?_)
      have h := h y1 ey1
      refine lv_istore_n (lv' := [(3, .int y1), (2, .int 0), (0, .ref (ad p0)), (1, .int x1)]) hx hb dJ7_fill_53178_4 rfl hl (by decide) rfl (fun ls hl => ?_)
      exact h _ _ _ hP hD hS (lv_sub hl [2, 3, 1, 0] rfl)
  case b5 =>
    intro b1 b2 b3 μ h H locs ls hP hD hS hl
    refine lv_iload_n hx hb dJ7_fill_53178_5 rfl (lv_at hl 2 rfl) ?_
    refine lv_iload_n hx hb dJ7_fill_53178_6 rfl (lv_at hl 3 rfl) ?_
    refine lv_icmp_ge (tgt := 20) hx hb dJ7_fill_53178_7 (by decide) (fun c2 => ?_) (fun c2 => ?_)
    · have h := h.1 c2
      exact W.vret hx hb hr (fun t ht hW => ⟨⟨μ, rfl, h, PW.to hK hN hP hD t ht hW⟩, hS.F ht⟩) hS.2.2 dJ7_fill_53178_20
    · have h := h.2 c2
      refine lv_aload_n hx hb dJ7_fill_53178_10 rfl (lv_at hl 0 rfl) ?_
      refine lv_iload_n hx hb dJ7_fill_53178_11 rfl (lv_at hl 2 rfl) ?_
      refine lv_iload_n hx hb dJ7_fill_53178_12 rfl (lv_at hl 1 rfl) ?_
      obtain ⟨hi3, h⟩ := h
      refine zw_iast hx hb hK hP hD hS hp0 hi3 dJ7_fill_53178_13 (fun μ4 H locs eμ4 hP hD hS => ?_)
      have h := h μ4 eμ4
      obtain ⟨y5, ey5⟩ : ∃ y : Int32, y = b2 + 1 := ⟨_, rfl⟩
      have h := h y5 ey5
      refine lv_iinc (v := y5) (lv' := [(2, .int y5), (0, .ref (ad p0)), (1, .int b1), (3, .int b3)]) hx hb dJ7_fill_53178_14 hl (k := 2) rfl (by rw [ey5]; rfl) (by decide) rfl (fun ls hl => ?_)
      refine lv_goto (tgt := 5) hx hb dJ7_fill_53178_17 (by decide) ?_
      exact h _ _ _ hP hD hS (lv_sub hl [1, 2, 0, 3] rfl)

set_option maxHeartbeats 4000000 in
set_option maxRecDepth 100000 in
theorem c_X2_init (l : Launch) (D : va_G) (cc : Nat → ClassId) (h0 sz : Nat) (PS : Mem → Prop) (hPS : f_J7_fill_53178 1 32 (-1) memS PS) : Met l yX2_init wsX2_init ({ frames := 1, cells := 9, slots := 236, locals := 24 }) (va_Pc [.ref h0] (NCP D cc sz [(h0, .inr (2, [.int 0, .int 0, .int 0, .int 0, .null, .null, .null]))])) (va_Qv (fun u : (Nat → Nat) × Mem => u.1 0 = h0 ∧ PS u.2) (fun u t => va_P D vwCl (wW shS 10 cc u.1 u.2) t.heap ∧ va_K D vwCl (tyL cc) t ∧ va_D (va_A [(h0, .inr (2, [.int 0, .int 0, .int 0, .int 0, .null, .null, .null]))] sz) (wW shS 10 cc u.1 u.2)) (va_A [(h0, .inr (2, [.int 0, .int 0, .int 0, .int 0, .null, .null, .null]))] sz)) 9 236 (va_A [(h0, .inr (2, [.int 0, .int 0, .int 0, .int 0, .null, .null, .null]))] sz) := by
  refine Met.ofW (cc := cX2_init) (maxL := 1) (ret := none) (by decide) rfl ?_
  intro p e s m args below meth c s₁ BB hml hv
  obtain ⟨rfl, hsz, hP, hK, hD0, hNC⟩ := hv
  have hx := BB.exec
  have hb := BB.bytes
  have hr := BB.returns
  have hts := atoms_spec (ws := wsX2_init) BB.pre
  have hown : s.vm.findClass RX2 = some m.cls := findClass_of_methodNamed BB.named
  have hlocks := BB.notSynchronized
  have hin : meth.name = "<init>" := (name_of_methodNamed BB.named BB.method).1
  have hi_X2 : ∀ w ∈ u_ws RX2 TX2 7, w ∈ wsX2_init := by decide +kernel
  have hw0 := hts (.methodLink RX2 3 objectInit) (by decide +kernel)
  have hw1 := hts (.instanceMethod objectInit) (by decide +kernel)
  have hw2 := hts (.code objectInit ⟨#[0xb1]⟩ 1 none) (by decide +kernel)
  have hw3 := hts (.fieldLink RX2 9 "FeatureClashes$Setup" "states" "I") (by decide +kernel)
  have hw4 := hts (.fieldLink RX2 15 "FeatureClashes$Setup" "letters" "I") (by decide +kernel)
  have hw5 := hts (.fieldLink RX2 18 "FeatureClashes$Setup" "featureCount" "I") (by decide +kernel)
  have hw6 := hts (.fieldLink RX2 21 "FeatureClashes$Setup" "onSet" "I") (by decide +kernel)
  have hw7 := hts (.arrayClass .int) (by decide +kernel)
  have hw8 := hts (.fieldLink RX2 24 "FeatureClashes$Setup" "base" "[I") (by decide +kernel)
  have hw9 := hts (.classLink RX2 28 "[[I") (by decide +kernel)
  have hw10 := hts (.fieldLink RX2 30 "FeatureClashes$Setup" "edits" "[[I") (by decide +kernel)
  have hw11 := hts (.fieldLink RX2 33 "FeatureClashes$Setup" "earlier" "[I") (by decide +kernel)
  subst hsz
  have hD := hD0.self (sz := s.heap.size)
  generalize hAe : va_A [(h0, .inr (2, [.int 0, .int 0, .int 0, .int 0, .null, .null, .null]))] s.heap.size = A at hD ⊢
  have hA : ∀ q : Nat, s.heap.size ≤ q → A q := fun q h => by rw [← hAe]; exact Or.inr h
  have hS : va_S A s.heap s.heap [] := va_S.rf
  have hP : va_P D vwCl [(h0, .inr (2, [.int 0, .int 0, .int 0, .int 0, .null, .null, .null]))] s.heap := hP
  have hl := lv_entry ([.ref h0]) (n := 1) (Nat.le_of_ble_eq_true rfl)
  rw [lg_entry_eq]
  generalize (lg_sl ([.ref h0]) ++ List.replicate (1 - (lg_sl ([.ref h0])).length) Slot.unset).toArray = ls at hl ⊢
  have hl : lv_has ls 1 [(0, .ref h0)] := hl
  refine lv_aload_n hx hb dX2_init_0 rfl (lv_at hl 0 rfl) ?_
  refine W.objInit hx hb hown hw0 hw1 hw2 rfl (by rw [hml]; exact hl.1) rfl dX2_init_1 (Nat.le_of_ble_eq_true rfl) (Nat.le_of_ble_eq_true rfl) ?_
  refine W.eq (g2 := F0 m 4 ls []) rfl ?_
  refine lv_aload_n hx hb dX2_init_4 rfl (lv_at hl 0 rfl) ?_
  refine lv_iconst (v := 2) hx hb dX2_init_5 (by decide) ?_
  refine va_put (D := D) (ci := 2) (v := .int 2) (ty := .int) (C := RX2) (T := TX2) (N := 7) hx hb hts hi_X2 tyX2 tyX2_ok nmX2 hown hK hP hD hS 0 rfl rfl 0 (by decide) hw3 (fun _ h9 => h9) rfl (by decide +kernel) rfl rfl (Nat.le_of_ble_eq_true rfl) dX2_init_6 (fun H locs hP hD hS => ?_)
  have hP : va_P D vwCl ((h0, .inr (2, [.int 2, .int 0, .int 0, .int 0, .null, .null, .null])) :: []) H := hP
  have hD : va_D A ((h0, .inr (2, [.int 2, .int 0, .int 0, .int 0, .null, .null, .null])) :: []) := hD
  refine lv_aload_n hx hb dX2_init_9 rfl (lv_at hl 0 rfl) ?_
  refine lv_iconst (v := 2) hx hb dX2_init_10 (by decide) ?_
  refine va_put (D := D) (ci := 2) (v := .int 2) (ty := .int) (C := RX2) (T := TX2) (N := 7) hx hb hts hi_X2 tyX2 tyX2_ok nmX2 hown hK hP hD hS 0 rfl rfl 1 (by decide) hw4 (fun _ h9 => h9) rfl (by decide +kernel) rfl rfl (Nat.le_of_ble_eq_true rfl) dX2_init_11 (fun H locs hP hD hS => ?_)
  have hP : va_P D vwCl ((h0, .inr (2, [.int 2, .int 2, .int 0, .int 0, .null, .null, .null])) :: []) H := hP
  have hD : va_D A ((h0, .inr (2, [.int 2, .int 2, .int 0, .int 0, .null, .null, .null])) :: []) := hD
  refine lv_aload_n hx hb dX2_init_14 rfl (lv_at hl 0 rfl) ?_
  refine lv_iconst (v := 0) hx hb dX2_init_15 (by decide) ?_
  refine va_put (D := D) (ci := 2) (v := .int 0) (ty := .int) (C := RX2) (T := TX2) (N := 7) hx hb hts hi_X2 tyX2 tyX2_ok nmX2 hown hK hP hD hS 0 rfl rfl 2 (by decide) hw5 (fun _ h9 => h9) rfl (by decide +kernel) rfl rfl (Nat.le_of_ble_eq_true rfl) dX2_init_16 (fun H locs hP hD hS => ?_)
  have hP : va_P D vwCl ((h0, .inr (2, [.int 2, .int 2, .int 0, .int 0, .null, .null, .null])) :: []) H := hP
  have hD : va_D A ((h0, .inr (2, [.int 2, .int 2, .int 0, .int 0, .null, .null, .null])) :: []) := hD
  refine lv_aload_n hx hb dX2_init_19 rfl (lv_at hl 0 rfl) ?_
  refine lv_iconst (v := 0) hx hb dX2_init_20 (by decide) ?_
  refine va_put (D := D) (ci := 2) (v := .int 0) (ty := .int) (C := RX2) (T := TX2) (N := 7) hx hb hts hi_X2 tyX2 tyX2_ok nmX2 hown hK hP hD hS 0 rfl rfl 3 (by decide) hw6 (fun _ h9 => h9) rfl (by decide +kernel) rfl rfl (Nat.le_of_ble_eq_true rfl) dX2_init_21 (fun H locs hP hD hS => ?_)
  have hP : va_P D vwCl ((h0, .inr (2, [.int 2, .int 2, .int 0, .int 0, .null, .null, .null])) :: []) H := hP
  have hD : va_D A ((h0, .inr (2, [.int 2, .int 2, .int 0, .int 0, .null, .null, .null])) :: []) := hD
  refine lv_aload_n hx hb dX2_init_24 rfl (lv_at hl 0 rfl) ?_
  refine lv_bipush (v := 32) hx hb dX2_init_25 (by decide) ?_
  refine zn_newi (N' := 32) hx hb hw7 hK hP hD hS hA (by decide) (by decide) (Nat.le_of_ble_eq_true rfl) (Nat.le_of_ble_eq_true rfl) (Nat.le_of_ble_eq_true rfl) dX2_init_27 (fun q1 H hP hD hS => ?_)
  have hP : va_P D vwCl ((h0, .inr (2, [.int 2, .int 2, .int 0, .int 0, .null, .null, .null])) :: ([] ++ [(q1, cI cc 32 (fun _ => 0))])) H := hP
  have hD : va_D A ((h0, .inr (2, [.int 2, .int 2, .int 0, .int 0, .null, .null, .null])) :: ([] ++ [(q1, cI cc 32 (fun _ => 0))])) := hD
  refine W.widen (k := 1) (n := 32) (Nat.le_of_ble_eq_true rfl) (Nat.le_of_ble_eq_true rfl) ?_
  refine va_putF (D := D) (ci := 2) (v := .ref q1) (ty := .array .int) (C := RX2) (T := TX2) (N := 7) hx hb hts hi_X2 tyX2 tyX2_ok nmX2 hown hK hP hD hS 0 rfl rfl 4 (by decide) hw8 (fun _ h9 => h9) rfl hin rfl (by decide +kernel) rfl rfl (Nat.le_of_ble_eq_true rfl) dX2_init_29 (fun H locs hP hD hS => ?_)
  have hP : va_P D vwCl ((h0, .inr (2, [.int 2, .int 2, .int 0, .int 0, .ref q1, .null, .null])) :: ([] ++ [(q1, cI cc 32 (fun _ => 0))])) H := hP
  have hD : va_D A ((h0, .inr (2, [.int 2, .int 2, .int 0, .int 0, .ref q1, .null, .null])) :: ([] ++ [(q1, cI cc 32 (fun _ => 0))])) := hD
  refine lv_aload_n hx hb dX2_init_32 rfl (lv_at hl 0 rfl) ?_
  refine lv_bipush (v := 6) hx hb dX2_init_33 (by decide) ?_
  refine lv_bipush (v := 32) hx hb dX2_init_35 (by decide) ?_
  refine zn_mna hx hb hown hw9 hNC.2.1 hw7 hK hP hD hS hA (by decide) (by decide) (N' := 6) (K' := 32) (by decide) (by decide) (Nat.le_of_ble_eq_true rfl) (Nat.le_of_ble_eq_true rfl) (Nat.le_of_ble_eq_true rfl) (Nat.le_of_ble_eq_true rfl) (Nat.le_of_ble_eq_true rfl) dX2_init_37 (fun q2 r2 H hP hD hS => ?_)
  have hP : va_P D vwCl ((h0, .inr (2, [.int 2, .int 2, .int 0, .int 0, .ref q1, .null, .null])) :: ((([] ++ [(q1, cI cc 32 (fun _ => 0))]) ++ [(q2, .inl (cc 4, 6, .inr (.inr (.inr (.inr (fun i => if i < 6 then some (r2 i) else none))))))]) ++ (List.range 6).map (fun i => (r2 i, cI cc 32 (fun _ => 0))))) H := hP
  have hD : va_D A ((h0, .inr (2, [.int 2, .int 2, .int 0, .int 0, .ref q1, .null, .null])) :: ((([] ++ [(q1, cI cc 32 (fun _ => 0))]) ++ [(q2, .inl (cc 4, 6, .inr (.inr (.inr (.inr (fun i => if i < 6 then some (r2 i) else none))))))]) ++ (List.range 6).map (fun i => (r2 i, cI cc 32 (fun _ => 0))))) := hD
  refine W.widen (k := 8) (n := 230) (Nat.le_of_ble_eq_true rfl) (Nat.le_of_ble_eq_true rfl) ?_
  refine va_putF (D := D) (ci := 2) (v := .ref q2) (ty := .array (.array .int)) (C := RX2) (T := TX2) (N := 7) hx hb hts hi_X2 tyX2 tyX2_ok nmX2 hown hK hP hD hS 0 rfl rfl 5 (by decide) hw10 (fun _ h9 => h9) rfl hin rfl (by decide +kernel) rfl rfl (Nat.le_of_ble_eq_true rfl) dX2_init_41 (fun H locs hP hD hS => ?_)
  have hP : va_P D vwCl ((h0, .inr (2, [.int 2, .int 2, .int 0, .int 0, .ref q1, .ref q2, .null])) :: ((([] ++ [(q1, cI cc 32 (fun _ => 0))]) ++ [(q2, .inl (cc 4, 6, .inr (.inr (.inr (.inr (fun i => if i < 6 then some (r2 i) else none))))))]) ++ (List.range 6).map (fun i => (r2 i, cI cc 32 (fun _ => 0))))) H := hP
  have hD : va_D A ((h0, .inr (2, [.int 2, .int 2, .int 0, .int 0, .ref q1, .ref q2, .null])) :: ((([] ++ [(q1, cI cc 32 (fun _ => 0))]) ++ [(q2, .inl (cc 4, 6, .inr (.inr (.inr (.inr (fun i => if i < 6 then some (r2 i) else none))))))]) ++ (List.range 6).map (fun i => (r2 i, cI cc 32 (fun _ => 0))))) := hD
  refine lv_aload_n hx hb dX2_init_44 rfl (lv_at hl 0 rfl) ?_
  refine lv_bipush (v := 6) hx hb dX2_init_45 (by decide) ?_
  refine zn_newi (N' := 6) hx hb hw7 hK hP hD hS hA (by decide) (by decide) (Nat.le_of_ble_eq_true rfl) (Nat.le_of_ble_eq_true rfl) (Nat.le_of_ble_eq_true rfl) dX2_init_47 (fun q3 H hP hD hS => ?_)
  have hP : va_P D vwCl ((h0, .inr (2, [.int 2, .int 2, .int 0, .int 0, .ref q1, .ref q2, .null])) :: (((([] ++ [(q1, cI cc 32 (fun _ => 0))]) ++ [(q2, .inl (cc 4, 6, .inr (.inr (.inr (.inr (fun i => if i < 6 then some (r2 i) else none))))))]) ++ (List.range 6).map (fun i => (r2 i, cI cc 32 (fun _ => 0)))) ++ [(q3, cI cc 6 (fun _ => 0))])) H := hP
  have hD : va_D A ((h0, .inr (2, [.int 2, .int 2, .int 0, .int 0, .ref q1, .ref q2, .null])) :: (((([] ++ [(q1, cI cc 32 (fun _ => 0))]) ++ [(q2, .inl (cc 4, 6, .inr (.inr (.inr (.inr (fun i => if i < 6 then some (r2 i) else none))))))]) ++ (List.range 6).map (fun i => (r2 i, cI cc 32 (fun _ => 0)))) ++ [(q3, cI cc 6 (fun _ => 0))])) := hD
  refine W.widen (k := 9) (n := 236) (Nat.le_of_ble_eq_true rfl) (Nat.le_of_ble_eq_true rfl) ?_
  refine va_putF (D := D) (ci := 2) (v := .ref q3) (ty := .array .int) (C := RX2) (T := TX2) (N := 7) hx hb hts hi_X2 tyX2 tyX2_ok nmX2 hown hK hP hD hS 0 rfl rfl 6 (by decide) hw11 (fun _ h9 => h9) rfl hin rfl (by decide +kernel) rfl rfl (Nat.le_of_ble_eq_true rfl) dX2_init_49 (fun H locs hP hD hS => ?_)
  have hP : va_P D vwCl ((h0, .inr (2, [.int 2, .int 2, .int 0, .int 0, .ref q1, .ref q2, .ref q3])) :: (((([] ++ [(q1, cI cc 32 (fun _ => 0))]) ++ [(q2, .inl (cc 4, 6, .inr (.inr (.inr (.inr (fun i => if i < 6 then some (r2 i) else none))))))]) ++ (List.range 6).map (fun i => (r2 i, cI cc 32 (fun _ => 0)))) ++ [(q3, cI cc 6 (fun _ => 0))])) H := hP
  have hD : va_D A ((h0, .inr (2, [.int 2, .int 2, .int 0, .int 0, .ref q1, .ref q2, .ref q3])) :: (((([] ++ [(q1, cI cc 32 (fun _ => 0))]) ++ [(q2, .inl (cc 4, 6, .inr (.inr (.inr (.inr (fun i => if i < 6 then some (r2 i) else none))))))]) ++ (List.range 6).map (fun i => (r2 i, cI cc 32 (fun _ => 0)))) ++ [(q3, cI cc 6 (fun _ => 0))])) := hD
  refine lv_aload_n hx hb dX2_init_52 rfl (lv_at hl 0 rfl) ?_
  refine va_get (D := D) (ci := 2) (v := .ref q1) (C := RX2) (T := TX2) (N := 7) hx hb hts hi_X2 hown hK hP 0 rfl rfl 4 (by decide) hw8 (fun _ h9 => h9) rfl dX2_init_53 ?_
  refine lv_iconst (v := (-1)) hx hb dX2_init_56 (by decide) ?_
  rw [blkS] at hP hD
  refine zc_v (zc_runS (sh := shS) (N := 10) (ad := adS h0 q1 q2 r2 q3) (rs := []) (As := [.ref (adS h0 q1 q2 r2 q3 1), .int (-1)]) (rest := []) ⟨hx, hb, hml, hown, hts⟩ (cS_J7_fill_53178 l D cc A (adS h0 q1 q2 r2 q3) [] 1 32 ⟨by decide, fun _ _ _ _ => rfl⟩ (-1) memS PS hPS) (va_cwS 2 hts gX2_init_J7_fill_53178 rfl rfl rfl (by decide +kernel) ⟨Nat.le_of_ble_eq_true rfl, Nat.le_of_ble_eq_true rfl⟩) hK hNC.2.2.2 hP hD rfl hl.1 rfl (Nat.le_of_ble_eq_true rfl) dX2_init_57 ⟨Nat.le_of_ble_eq_true rfl, Nat.le_of_ble_eq_true rfl⟩) hS (fun μ1 H locs hm hP hD hS => ?_)
  rw [List.append_nil] at hP hD
  exact W.vret hx hb hr (fun t ht hW => ⟨⟨(adS h0 q1 q2 r2 q3, μ1), rfl, ⟨rfl, hm⟩, by rw [ht]; exact hP, va_K.moved hW.alike hK, hD⟩, hS.F ht⟩) hS.2.2 dX2_init_60

def adO (h0 : Nat) (a : Nat → Nat) (q7 q8 : Nat) (r : Nat → Nat) (q16 q17 : Nat) : Nat → Nat := fun p => if p = 0 then h0 else if p < 7 then a (p - 1) else if p = 7 then q7 else if p = 8 then q8 else if p < 16 then r (p - 9) else if p = 16 then q16 else q17
theorem blkO (cc : Nat → ClassId) (h0 : Nat) (a : Nat → Nat) (q7 q8 : Nat) (r : Nat → Nat) (q16 q17 : Nat) : ((h0, .inr (1, [.ref (a 0), .ref q7, .int 0, .int 0, .ref q8, .ref q16, .ref q17])) :: (((((([] ++ wW shH 6 cc a zeroM) ++ [(q7, cJ cc 2880 (fun _ => 0))]) ++ [(q8, .inl (cc 4, 7, .inr (.inr (.inr (.inr (fun i => if i < 7 then some (r i) else none))))))]) ++ (List.range 7).map (fun i => (r i, cI cc 32 (fun _ => 0)))) ++ [(q16, cI cc 6 (fun _ => 0))]) ++ [(q17, cI cc 6 (fun _ => 0))]) : va_W) = wW shO 18 cc (adO h0 a q7 q8 r q16 q17) zeroM := by
  rw [← cR_of (cc := cc) (t := 4) (n := 7) (ad := adO h0 a q7 q8 r q16 q17) (g := fun x => 9 + x) (r := r) (fun x hx => by unfold adO; rw [if_neg (by omega), if_neg (by omega), if_neg (by omega), if_neg (by omega), if_pos (by omega), show 9 + x - 9 = x by omega])]
  rfl

set_option maxHeartbeats 4000000 in
set_option maxRecDepth 100000 in
theorem c_X1_init (l : Launch) (D : va_G) (cc : Nat → ClassId) (h0 sz : Nat) : Met l yX1_init wsX1_init ({ frames := 2, cells := 17, slots := 3165, locals := 44 }) (va_Pc [.ref h0] (NCP D cc sz [(h0, .inr (1, [.null, .null, .int 0, .int 0, .null, .null, .null]))])) (va_Qv (fun u : (Nat → Nat) × Mem => u.1 0 = h0 ∧ u.2 = zeroM) (fun u t => va_P D vwCl (wW shO 18 cc u.1 u.2) t.heap ∧ va_K D vwCl (tyL cc) t ∧ va_D (va_A [(h0, .inr (1, [.null, .null, .int 0, .int 0, .null, .null, .null]))] sz) (wW shO 18 cc u.1 u.2)) (va_A [(h0, .inr (1, [.null, .null, .int 0, .int 0, .null, .null, .null]))] sz)) 17 3165 (va_A [(h0, .inr (1, [.null, .null, .int 0, .int 0, .null, .null, .null]))] sz) := by
  refine Met.ofW (cc := cX1_init) (maxL := 1) (ret := none) (by decide) rfl ?_
  intro p e s m args below meth c s₁ BB hml hv
  obtain ⟨rfl, hsz, hP, hK, hD0, hNC⟩ := hv
  have hx := BB.exec
  have hb := BB.bytes
  have hr := BB.returns
  have hts := atoms_spec (ws := wsX1_init) BB.pre
  have hown : s.vm.findClass RX1 = some m.cls := findClass_of_methodNamed BB.named
  have hlocks := BB.notSynchronized
  have hin : meth.name = "<init>" := (name_of_methodNamed BB.named BB.method).1
  have hi_X3 : ∀ w ∈ u_ws RX3 TX3 6, w ∈ wsX1_init := by decide +kernel
  have hi_X1 : ∀ w ∈ u_ws RX1 TX1 7, w ∈ wsX1_init := by decide +kernel
  have hw0 := hts (.methodLink RX1 3 objectInit) (by decide +kernel)
  have hw1 := hts (.instanceMethod objectInit) (by decide +kernel)
  have hw2 := hts (.code objectInit ⟨#[0xb1]⟩ 1 none) (by decide +kernel)
  have hw3 := hts (.classLink RX1 9 RX3) (by decide +kernel)
  have hw4 := hts (.instantiable RX3 6) (by decide +kernel)
  have hw5 := hts (.initialized RX3) (by decide +kernel)
  have hw6 := hts (.instanceMethod yX3_init) (by decide +kernel)
  have hw7 := hts (.fieldLink RX1 12 "FeatureClashes$Outcomes" "shape" "LFeatureClashes$Shape;") (by decide +kernel)
  have hw8 := hts (.arrayClass .long) (by decide +kernel)
  have hw9 := hts (.fieldLink RX1 18 "FeatureClashes$Outcomes" "forms" "[J") (by decide +kernel)
  have hw10 := hts (.fieldLink RX1 22 "FeatureClashes$Outcomes" "kinds" "I") (by decide +kernel)
  have hw11 := hts (.fieldLink RX1 26 "FeatureClashes$Outcomes" "limit" "I") (by decide +kernel)
  have hw12 := hts (.classLink RX1 29 "[[I") (by decide +kernel)
  have hw13 := hts (.arrayClass .int) (by decide +kernel)
  have hw14 := hts (.fieldLink RX1 31 "FeatureClashes$Outcomes" "stages" "[[I") (by decide +kernel)
  have hw15 := hts (.fieldLink RX1 34 "FeatureClashes$Outcomes" "earlier" "[I") (by decide +kernel)
  have hw16 := hts (.fieldLink RX1 38 "FeatureClashes$Outcomes" "rivals" "[I") (by decide +kernel)
  subst hsz
  have hD := hD0.self (sz := s.heap.size)
  generalize hAe : va_A [(h0, .inr (1, [.null, .null, .int 0, .int 0, .null, .null, .null]))] s.heap.size = A at hD ⊢
  have hA : ∀ q : Nat, s.heap.size ≤ q → A q := fun q h => by rw [← hAe]; exact Or.inr h
  have hS : va_S A s.heap s.heap [] := va_S.rf
  have hP : va_P D vwCl [(h0, .inr (1, [.null, .null, .int 0, .int 0, .null, .null, .null]))] s.heap := hP
  have hl := lv_entry ([.ref h0]) (n := 1) (Nat.le_of_ble_eq_true rfl)
  rw [lg_entry_eq]
  generalize (lg_sl ([.ref h0]) ++ List.replicate (1 - (lg_sl ([.ref h0])).length) Slot.unset).toArray = ls at hl ⊢
  have hl : lv_has ls 1 [(0, .ref h0)] := hl
  refine lv_aload_n hx hb dX1_init_0 rfl (lv_at hl 0 rfl) ?_
  refine W.objInit hx hb hown hw0 hw1 hw2 rfl (by rw [hml]; exact hl.1) rfl dX1_init_1 (Nat.le_of_ble_eq_true rfl) (Nat.le_of_ble_eq_true rfl) ?_
  refine W.eq (g2 := F0 m 4 ls []) rfl ?_
  refine lv_aload_n hx hb dX1_init_4 rfl (lv_at hl 0 rfl) ?_
  refine va_new (ci := 3) (fs := [.null, .null, .null, .null, .null, .int 0]) (C := RX3) (T := TX3) (N := 6) hx hb hts hi_X3 tyX3 tyX3_ok hown hw3 hw4 hw5 hK hP hD hS hA rfl (fun j hj => by rcases (show j = 0 ∨ j = 1 ∨ j = 2 ∨ j = 3 ∨ j = 4 ∨ j = 5 by omega) with rfl | rfl | rfl | rfl | rfl | rfl <;> rfl) (Nat.le_of_ble_eq_true rfl) (Nat.le_of_ble_eq_true rfl) dX1_init_5 (fun q1 H hP hD hS => ?_)
  have hP : va_P D vwCl ((h0, .inr (1, [.null, .null, .int 0, .int 0, .null, .null, .null])) :: ([] ++ [(q1, .inr (3, [.null, .null, .null, .null, .null, .int 0]))])) H := hP
  have hD : va_D A ((h0, .inr (1, [.null, .null, .int 0, .int 0, .null, .null, .null])) :: ([] ++ [(q1, .inr (3, [.null, .null, .null, .null, .null, .int 0]))])) := hD
  refine W.widen (k := 1) (n := 6) (Nat.le_of_ble_eq_true rfl) (Nat.le_of_ble_eq_true rfl) ?_
  refine lv_dup hx hb dX1_init_8 rfl ?_
  have hP : va_P D vwCl (((h0, .inr (1, [.null, .null, .int 0, .int 0, .null, .null, .null])) :: []) ++ [(q1, .inr (3, [.null, .null, .null, .null, .null, .int 0]))]) H := hP
  have hD : va_D A (((h0, .inr (1, [.null, .null, .int 0, .int 0, .null, .null, .null])) :: []) ++ [(q1, .inr (3, [.null, .null, .null, .null, .null, .int 0]))]) := hD
  have hPc := zn_tail hP
  have hDc := zn_tailD hD
  have hFc := zn_free hD hS hA
  refine va_callv (va_runIN (As := []) (rest := [.ref q1, .ref h0]) ⟨hx, hb, hml, hown, hts⟩ (c_X3_init l D cc q1 H.size) ⟨va_cnB (host := "FeatureClashes") 0 hts gX1_init_X3_init_n11 rfl rfl rfl (hNC.1 3 _ rfl) hw5 (by decide +kernel) ⟨Nat.le_of_ble_eq_true rfl, Nat.le_of_ble_eq_true rfl⟩, rfl, hw6⟩ ⟨NC_blind, fun U hU hW => ⟨rfl, by rw [hU], by rw [hU]; exact hPc, va_K.moved hW.alike hK, hDc.weaken (fun _ _ _ _ => trivial), hNC.warm hW⟩⟩ rfl rfl hl.1 rfl (lv_room (Nat.le_of_ble_eq_true rfl)) dX1_init_9 ⟨Nat.le_of_ble_eq_true rfl, Nat.le_of_ble_eq_true rfl⟩) hS (fun q _ h => hFc q h) hFc (fun u1 t H1 locs ht hvm hwu1 hB hz1 hk1 hS => ?_)
  obtain ⟨hP1, hK1, hD1⟩ := hB
  rw [ht] at hP1
  obtain ⟨hP, hD⟩ := zn_app (w1 := wW shH 6 cc u1.1 u1.2) hP hD hk1 hFc hP1 hD1
  generalize H1 = H at hP hS ⊢
  have hP : va_P D vwCl ((h0, .inr (1, [.null, .null, .int 0, .int 0, .null, .null, .null])) :: ([] ++ wW shH 6 cc u1.1 u1.2)) H := hP
  have hD : va_D A ((h0, .inr (1, [.null, .null, .int 0, .int 0, .null, .null, .null])) :: ([] ++ wW shH 6 cc u1.1 u1.2)) := hD
  refine W.widen (k := 6) (n := 42) (Nat.le_of_ble_eq_true rfl) (Nat.le_of_ble_eq_true rfl) ?_
  have ezu1 : q1 = u1.1 0 := hwu1.1.symm
  rw [ezu1]
  refine va_putF (D := D) (ci := 1) (v := .ref (u1.1 0)) (ty := .object "FeatureClashes$Shape") (C := RX1) (T := TX1) (N := 7) hx hb hts hi_X1 tyX1 tyX1_ok nmX1 hown hK hP hD hS 0 rfl rfl 0 (by decide) hw7 (fun _ h9 => h9) rfl hin rfl (by decide +kernel) rfl rfl (Nat.le_of_ble_eq_true rfl) dX1_init_12 (fun H locs hP hD hS => ?_)
  have hP : va_P D vwCl ((h0, .inr (1, [.ref (u1.1 0), .null, .int 0, .int 0, .null, .null, .null])) :: ([] ++ wW shH 6 cc u1.1 u1.2)) H := hP
  have hD : va_D A ((h0, .inr (1, [.ref (u1.1 0), .null, .int 0, .int 0, .null, .null, .null])) :: ([] ++ wW shH 6 cc u1.1 u1.2)) := hD
  refine lv_aload_n hx hb dX1_init_15 rfl (lv_at hl 0 rfl) ?_
  refine lv_sipush (v := 2880) hx hb dX1_init_16 (by decide) ?_
  refine zn_newj (N' := 2880) hx hb hw8 hK hP hD hS hA (by decide) (by decide) (Nat.le_of_ble_eq_true rfl) (Nat.le_of_ble_eq_true rfl) (Nat.le_of_ble_eq_true rfl) dX1_init_19 (fun q2 H hP hD hS => ?_)
  have hP : va_P D vwCl ((h0, .inr (1, [.ref (u1.1 0), .null, .int 0, .int 0, .null, .null, .null])) :: (([] ++ wW shH 6 cc u1.1 u1.2) ++ [(q2, cJ cc 2880 (fun _ => 0))])) H := hP
  have hD : va_D A ((h0, .inr (1, [.ref (u1.1 0), .null, .int 0, .int 0, .null, .null, .null])) :: (([] ++ wW shH 6 cc u1.1 u1.2) ++ [(q2, cJ cc 2880 (fun _ => 0))])) := hD
  refine W.widen (k := 7) (n := 2922) (Nat.le_of_ble_eq_true rfl) (Nat.le_of_ble_eq_true rfl) ?_
  refine va_putF (D := D) (ci := 1) (v := .ref q2) (ty := .array .long) (C := RX1) (T := TX1) (N := 7) hx hb hts hi_X1 tyX1 tyX1_ok nmX1 hown hK hP hD hS 0 rfl rfl 1 (by decide) hw9 (fun _ h9 => h9) rfl hin rfl (by decide +kernel) rfl rfl (Nat.le_of_ble_eq_true rfl) dX1_init_21 (fun H locs hP hD hS => ?_)
  have hP : va_P D vwCl ((h0, .inr (1, [.ref (u1.1 0), .ref q2, .int 0, .int 0, .null, .null, .null])) :: (([] ++ wW shH 6 cc u1.1 u1.2) ++ [(q2, cJ cc 2880 (fun _ => 0))])) H := hP
  have hD : va_D A ((h0, .inr (1, [.ref (u1.1 0), .ref q2, .int 0, .int 0, .null, .null, .null])) :: (([] ++ wW shH 6 cc u1.1 u1.2) ++ [(q2, cJ cc 2880 (fun _ => 0))])) := hD
  refine lv_aload_n hx hb dX1_init_24 rfl (lv_at hl 0 rfl) ?_
  refine lv_iconst (v := 0) hx hb dX1_init_25 (by decide) ?_
  refine va_put (D := D) (ci := 1) (v := .int 0) (ty := .int) (C := RX1) (T := TX1) (N := 7) hx hb hts hi_X1 tyX1 tyX1_ok nmX1 hown hK hP hD hS 0 rfl rfl 2 (by decide) hw10 (fun _ h9 => h9) rfl (by decide +kernel) rfl rfl (Nat.le_of_ble_eq_true rfl) dX1_init_26 (fun H locs hP hD hS => ?_)
  have hP : va_P D vwCl ((h0, .inr (1, [.ref (u1.1 0), .ref q2, .int 0, .int 0, .null, .null, .null])) :: (([] ++ wW shH 6 cc u1.1 u1.2) ++ [(q2, cJ cc 2880 (fun _ => 0))])) H := hP
  have hD : va_D A ((h0, .inr (1, [.ref (u1.1 0), .ref q2, .int 0, .int 0, .null, .null, .null])) :: (([] ++ wW shH 6 cc u1.1 u1.2) ++ [(q2, cJ cc 2880 (fun _ => 0))])) := hD
  refine lv_aload_n hx hb dX1_init_29 rfl (lv_at hl 0 rfl) ?_
  refine lv_iconst (v := 0) hx hb dX1_init_30 (by decide) ?_
  refine va_put (D := D) (ci := 1) (v := .int 0) (ty := .int) (C := RX1) (T := TX1) (N := 7) hx hb hts hi_X1 tyX1 tyX1_ok nmX1 hown hK hP hD hS 0 rfl rfl 3 (by decide) hw11 (fun _ h9 => h9) rfl (by decide +kernel) rfl rfl (Nat.le_of_ble_eq_true rfl) dX1_init_31 (fun H locs hP hD hS => ?_)
  have hP : va_P D vwCl ((h0, .inr (1, [.ref (u1.1 0), .ref q2, .int 0, .int 0, .null, .null, .null])) :: (([] ++ wW shH 6 cc u1.1 u1.2) ++ [(q2, cJ cc 2880 (fun _ => 0))])) H := hP
  have hD : va_D A ((h0, .inr (1, [.ref (u1.1 0), .ref q2, .int 0, .int 0, .null, .null, .null])) :: (([] ++ wW shH 6 cc u1.1 u1.2) ++ [(q2, cJ cc 2880 (fun _ => 0))])) := hD
  refine lv_aload_n hx hb dX1_init_34 rfl (lv_at hl 0 rfl) ?_
  refine lv_bipush (v := 7) hx hb dX1_init_35 (by decide) ?_
  refine lv_bipush (v := 32) hx hb dX1_init_37 (by decide) ?_
  refine zn_mna hx hb hown hw12 hNC.2.1 hw13 hK hP hD hS hA (by decide) (by decide) (N' := 7) (K' := 32) (by decide) (by decide) (Nat.le_of_ble_eq_true rfl) (Nat.le_of_ble_eq_true rfl) (Nat.le_of_ble_eq_true rfl) (Nat.le_of_ble_eq_true rfl) (Nat.le_of_ble_eq_true rfl) dX1_init_39 (fun q3 r3 H hP hD hS => ?_)
  have hP : va_P D vwCl ((h0, .inr (1, [.ref (u1.1 0), .ref q2, .int 0, .int 0, .null, .null, .null])) :: (((([] ++ wW shH 6 cc u1.1 u1.2) ++ [(q2, cJ cc 2880 (fun _ => 0))]) ++ [(q3, .inl (cc 4, 7, .inr (.inr (.inr (.inr (fun i => if i < 7 then some (r3 i) else none))))))]) ++ (List.range 7).map (fun i => (r3 i, cI cc 32 (fun _ => 0))))) H := hP
  have hD : va_D A ((h0, .inr (1, [.ref (u1.1 0), .ref q2, .int 0, .int 0, .null, .null, .null])) :: (((([] ++ wW shH 6 cc u1.1 u1.2) ++ [(q2, cJ cc 2880 (fun _ => 0))]) ++ [(q3, .inl (cc 4, 7, .inr (.inr (.inr (.inr (fun i => if i < 7 then some (r3 i) else none))))))]) ++ (List.range 7).map (fun i => (r3 i, cI cc 32 (fun _ => 0))))) := hD
  refine W.widen (k := 15) (n := 3153) (Nat.le_of_ble_eq_true rfl) (Nat.le_of_ble_eq_true rfl) ?_
  refine va_putF (D := D) (ci := 1) (v := .ref q3) (ty := .array (.array .int)) (C := RX1) (T := TX1) (N := 7) hx hb hts hi_X1 tyX1 tyX1_ok nmX1 hown hK hP hD hS 0 rfl rfl 4 (by decide) hw14 (fun _ h9 => h9) rfl hin rfl (by decide +kernel) rfl rfl (Nat.le_of_ble_eq_true rfl) dX1_init_43 (fun H locs hP hD hS => ?_)
  have hP : va_P D vwCl ((h0, .inr (1, [.ref (u1.1 0), .ref q2, .int 0, .int 0, .ref q3, .null, .null])) :: (((([] ++ wW shH 6 cc u1.1 u1.2) ++ [(q2, cJ cc 2880 (fun _ => 0))]) ++ [(q3, .inl (cc 4, 7, .inr (.inr (.inr (.inr (fun i => if i < 7 then some (r3 i) else none))))))]) ++ (List.range 7).map (fun i => (r3 i, cI cc 32 (fun _ => 0))))) H := hP
  have hD : va_D A ((h0, .inr (1, [.ref (u1.1 0), .ref q2, .int 0, .int 0, .ref q3, .null, .null])) :: (((([] ++ wW shH 6 cc u1.1 u1.2) ++ [(q2, cJ cc 2880 (fun _ => 0))]) ++ [(q3, .inl (cc 4, 7, .inr (.inr (.inr (.inr (fun i => if i < 7 then some (r3 i) else none))))))]) ++ (List.range 7).map (fun i => (r3 i, cI cc 32 (fun _ => 0))))) := hD
  refine lv_aload_n hx hb dX1_init_46 rfl (lv_at hl 0 rfl) ?_
  refine lv_bipush (v := 6) hx hb dX1_init_47 (by decide) ?_
  refine zn_newi (N' := 6) hx hb hw13 hK hP hD hS hA (by decide) (by decide) (Nat.le_of_ble_eq_true rfl) (Nat.le_of_ble_eq_true rfl) (Nat.le_of_ble_eq_true rfl) dX1_init_49 (fun q4 H hP hD hS => ?_)
  have hP : va_P D vwCl ((h0, .inr (1, [.ref (u1.1 0), .ref q2, .int 0, .int 0, .ref q3, .null, .null])) :: ((((([] ++ wW shH 6 cc u1.1 u1.2) ++ [(q2, cJ cc 2880 (fun _ => 0))]) ++ [(q3, .inl (cc 4, 7, .inr (.inr (.inr (.inr (fun i => if i < 7 then some (r3 i) else none))))))]) ++ (List.range 7).map (fun i => (r3 i, cI cc 32 (fun _ => 0)))) ++ [(q4, cI cc 6 (fun _ => 0))])) H := hP
  have hD : va_D A ((h0, .inr (1, [.ref (u1.1 0), .ref q2, .int 0, .int 0, .ref q3, .null, .null])) :: ((((([] ++ wW shH 6 cc u1.1 u1.2) ++ [(q2, cJ cc 2880 (fun _ => 0))]) ++ [(q3, .inl (cc 4, 7, .inr (.inr (.inr (.inr (fun i => if i < 7 then some (r3 i) else none))))))]) ++ (List.range 7).map (fun i => (r3 i, cI cc 32 (fun _ => 0)))) ++ [(q4, cI cc 6 (fun _ => 0))])) := hD
  refine W.widen (k := 16) (n := 3159) (Nat.le_of_ble_eq_true rfl) (Nat.le_of_ble_eq_true rfl) ?_
  refine va_putF (D := D) (ci := 1) (v := .ref q4) (ty := .array .int) (C := RX1) (T := TX1) (N := 7) hx hb hts hi_X1 tyX1 tyX1_ok nmX1 hown hK hP hD hS 0 rfl rfl 5 (by decide) hw15 (fun _ h9 => h9) rfl hin rfl (by decide +kernel) rfl rfl (Nat.le_of_ble_eq_true rfl) dX1_init_51 (fun H locs hP hD hS => ?_)
  have hP : va_P D vwCl ((h0, .inr (1, [.ref (u1.1 0), .ref q2, .int 0, .int 0, .ref q3, .ref q4, .null])) :: ((((([] ++ wW shH 6 cc u1.1 u1.2) ++ [(q2, cJ cc 2880 (fun _ => 0))]) ++ [(q3, .inl (cc 4, 7, .inr (.inr (.inr (.inr (fun i => if i < 7 then some (r3 i) else none))))))]) ++ (List.range 7).map (fun i => (r3 i, cI cc 32 (fun _ => 0)))) ++ [(q4, cI cc 6 (fun _ => 0))])) H := hP
  have hD : va_D A ((h0, .inr (1, [.ref (u1.1 0), .ref q2, .int 0, .int 0, .ref q3, .ref q4, .null])) :: ((((([] ++ wW shH 6 cc u1.1 u1.2) ++ [(q2, cJ cc 2880 (fun _ => 0))]) ++ [(q3, .inl (cc 4, 7, .inr (.inr (.inr (.inr (fun i => if i < 7 then some (r3 i) else none))))))]) ++ (List.range 7).map (fun i => (r3 i, cI cc 32 (fun _ => 0)))) ++ [(q4, cI cc 6 (fun _ => 0))])) := hD
  refine lv_aload_n hx hb dX1_init_54 rfl (lv_at hl 0 rfl) ?_
  refine lv_bipush (v := 6) hx hb dX1_init_55 (by decide) ?_
  refine zn_newi (N' := 6) hx hb hw13 hK hP hD hS hA (by decide) (by decide) (Nat.le_of_ble_eq_true rfl) (Nat.le_of_ble_eq_true rfl) (Nat.le_of_ble_eq_true rfl) dX1_init_57 (fun q5 H hP hD hS => ?_)
  have hP : va_P D vwCl ((h0, .inr (1, [.ref (u1.1 0), .ref q2, .int 0, .int 0, .ref q3, .ref q4, .null])) :: (((((([] ++ wW shH 6 cc u1.1 u1.2) ++ [(q2, cJ cc 2880 (fun _ => 0))]) ++ [(q3, .inl (cc 4, 7, .inr (.inr (.inr (.inr (fun i => if i < 7 then some (r3 i) else none))))))]) ++ (List.range 7).map (fun i => (r3 i, cI cc 32 (fun _ => 0)))) ++ [(q4, cI cc 6 (fun _ => 0))]) ++ [(q5, cI cc 6 (fun _ => 0))])) H := hP
  have hD : va_D A ((h0, .inr (1, [.ref (u1.1 0), .ref q2, .int 0, .int 0, .ref q3, .ref q4, .null])) :: (((((([] ++ wW shH 6 cc u1.1 u1.2) ++ [(q2, cJ cc 2880 (fun _ => 0))]) ++ [(q3, .inl (cc 4, 7, .inr (.inr (.inr (.inr (fun i => if i < 7 then some (r3 i) else none))))))]) ++ (List.range 7).map (fun i => (r3 i, cI cc 32 (fun _ => 0)))) ++ [(q4, cI cc 6 (fun _ => 0))]) ++ [(q5, cI cc 6 (fun _ => 0))])) := hD
  refine W.widen (k := 17) (n := 3165) (Nat.le_of_ble_eq_true rfl) (Nat.le_of_ble_eq_true rfl) ?_
  refine va_putF (D := D) (ci := 1) (v := .ref q5) (ty := .array .int) (C := RX1) (T := TX1) (N := 7) hx hb hts hi_X1 tyX1 tyX1_ok nmX1 hown hK hP hD hS 0 rfl rfl 6 (by decide) hw16 (fun _ h9 => h9) rfl hin rfl (by decide +kernel) rfl rfl (Nat.le_of_ble_eq_true rfl) dX1_init_59 (fun H locs hP hD hS => ?_)
  have hP : va_P D vwCl ((h0, .inr (1, [.ref (u1.1 0), .ref q2, .int 0, .int 0, .ref q3, .ref q4, .ref q5])) :: (((((([] ++ wW shH 6 cc u1.1 u1.2) ++ [(q2, cJ cc 2880 (fun _ => 0))]) ++ [(q3, .inl (cc 4, 7, .inr (.inr (.inr (.inr (fun i => if i < 7 then some (r3 i) else none))))))]) ++ (List.range 7).map (fun i => (r3 i, cI cc 32 (fun _ => 0)))) ++ [(q4, cI cc 6 (fun _ => 0))]) ++ [(q5, cI cc 6 (fun _ => 0))])) H := hP
  have hD : va_D A ((h0, .inr (1, [.ref (u1.1 0), .ref q2, .int 0, .int 0, .ref q3, .ref q4, .ref q5])) :: (((((([] ++ wW shH 6 cc u1.1 u1.2) ++ [(q2, cJ cc 2880 (fun _ => 0))]) ++ [(q3, .inl (cc 4, 7, .inr (.inr (.inr (.inr (fun i => if i < 7 then some (r3 i) else none))))))]) ++ (List.range 7).map (fun i => (r3 i, cI cc 32 (fun _ => 0)))) ++ [(q4, cI cc 6 (fun _ => 0))]) ++ [(q5, cI cc 6 (fun _ => 0))])) := hD
  obtain ⟨a1, m1⟩ := u1
  obtain ⟨-, hm⟩ := hwu1
  dsimp only at hm hP hD ⊢
  subst hm
  have hP := hP
  rw [blkO] at hP hD
  exact W.vret hx hb hr (fun t ht hW => ⟨⟨(adO h0 a1 q2 q3 r3 q4 q5, zeroM), rfl, ⟨rfl, rfl⟩, by rw [ht]; exact hP, va_K.moved hW.alike hK, hD⟩, hS.F ht⟩) hS.2.2 dX1_init_62

def memX (a b c : Mem) : Mem := (fun p => if p = 0 then fun _ => 0 else if p < 11 then a.1 (p - 1) else if p = 11 then fun _ => 0 else if p < 22 then b.1 (p - 12) else if p < 32 then c.1 (p - 22) else fun _ => 0, fun _ _ => 0)
def adX (h0 : Nat) (a1 : Nat → Nat) (q11 : Nat) (a2 a3 : Nat → Nat) (q32 : Nat) (a4 : Nat → Nat) (q36 q37 q38 q39 q40 : Nat) (a5 a6 : Nat → Nat) : Nat → Nat := fun p => if p = 0 then h0 else if p < 11 then a1 (p - 1) else if p = 11 then q11 else if p < 22 then a2 (p - 12) else if p < 32 then a3 (p - 22) else if p = 32 then q32 else if p < 36 then a4 (p - 33) else if p = 36 then q36 else if p = 37 then q37 else if p = 38 then q38 else if p = 39 then q39 else if p = 40 then q40 else if p < 49 then a5 (p - 41) else a6 (p - 49)

set_option maxRecDepth 100000 in
set_option maxHeartbeats 4000000 in
theorem blkX (cc : Nat → ClassId) (h0 : Nat) (a1 : Nat → Nat) (q11 : Nat) (a2 a3 : Nat → Nat) (q32 : Nat) (a4 : Nat → Nat) (q36 q37 q38 q39 q40 : Nat) (a5 a6 : Nat → Nat) (m1 m2 m3 : Mem) : ((h0, .inr (5, [.ref (a1 0), .ref q11, .ref q32, .ref (a4 0), .ref q36, .int 0, .ref q37, .ref q38, .ref q39, .ref q40, .ref (a5 0), .ref (a6 0)])) :: ((((((((((((([] ++ wW shS 10 cc a1 m1) ++ [(q11, .inl (cc 3, 2, .inr (.inr (.inr (.inr (va_up (va_up (fun _ => none) 0 (some (a2 0))) 1 (some (a3 0))))))))]) ++ wW shS 10 cc a2 m2) ++ wW shS 10 cc a3 m3) ++ [(q32, cZ cc 2 (fun _ => 0))]) ++ wW shT 3 cc a4 zeroM) ++ [(q36, cI cc 20 (fun _ => 0))]) ++ [(q37, cI cc 32 (fun _ => 0))]) ++ [(q38, cI cc 32 (fun _ => 0))]) ++ [(q39, cI cc 6 (fun _ => 0))]) ++ [(q40, cI cc 64 (fun _ => 0))]) ++ wW shD 8 cc a5 zeroM) ++ wW shO 18 cc a6 zeroM) : va_W) = wW shX 67 cc (adX h0 a1 q11 a2 a3 q32 a4 q36 q37 q38 q39 q40 a5 a6) (memX m1 m2 m3) := by
  have e1 : cR cc 4 6 a1 (fun x => 0 + 3 + x) = cR cc 4 6 (adX h0 a1 q11 a2 a3 q32 a4 q36 q37 q38 q39 q40 a5 a6) (fun x => 1 + 3 + x) := cR_congr (fun x hx => by unfold adX; rw [if_neg (by omega), if_pos (by omega)]; congr 1; omega)
  have e2 : cR cc 4 6 a2 (fun x => 0 + 3 + x) = cR cc 4 6 (adX h0 a1 q11 a2 a3 q32 a4 q36 q37 q38 q39 q40 a5 a6) (fun x => 12 + 3 + x) := cR_congr (fun x hx => by unfold adX; rw [if_neg (by omega), if_neg (by omega), if_neg (by omega), if_pos (by omega)]; congr 1; omega)
  have e3 : cR cc 4 6 a3 (fun x => 0 + 3 + x) = cR cc 4 6 (adX h0 a1 q11 a2 a3 q32 a4 q36 q37 q38 q39 q40 a5 a6) (fun x => 22 + 3 + x) := cR_congr (fun x hx => by unfold adX; rw [if_neg (by omega), if_neg (by omega), if_neg (by omega), if_neg (by omega), if_pos (by omega)]; congr 1; omega)
  have e4 : cR cc 4 7 a6 (fun x => 9 + x) = cR cc 4 7 (adX h0 a1 q11 a2 a3 q32 a4 q36 q37 q38 q39 q40 a5 a6) (fun x => 58 + x) := cR_congr (fun x hx => by unfold adX; rw [if_neg (by omega), if_neg (by omega), if_neg (by omega), if_neg (by omega), if_neg (by omega), if_neg (by omega), if_neg (by omega), if_neg (by omega), if_neg (by omega), if_neg (by omega), if_neg (by omega), if_neg (by omega), if_neg (by omega)]; congr 1; omega)
  have e5 : (.inl (cc 3, 2, .inr (.inr (.inr (.inr (va_up (va_up (fun _ => none) 0 (some (a2 0))) 1 (some (a3 0))))))) : va_E) = cR cc 3 2 (adX h0 a1 q11 a2 a3 q32 a4 q36 q37 q38 q39 q40 a5 a6) (fun x => 12 + 10 * x) := by
    have e : (va_up (va_up (fun _ => none) 0 (some (a2 0))) 1 (some (a3 0))) = (fun x => if x < 2 then some ((adX h0 a1 q11 a2 a3 q32 a4 q36 q37 q38 q39 q40 a5 a6) (12 + 10 * x)) else none) := by
      funext x
      match x with
      | 0 => rfl
      | 1 => rfl
      | x + 2 => simp [va_up]
    unfold cR
    rw [e]
  rw [e5]
  have k1 : wW shS 10 cc a1 m1 = [(a1 0, .inr (2, fsS 0 a1 (m1.1 0))), (a1 1, cI cc 32 (m1.1 1)), (a1 2, cR cc 4 6 a1 (fun x => 0 + 3 + x)), (a1 3, cI cc 32 (m1.1 3)), (a1 4, cI cc 32 (m1.1 4)), (a1 5, cI cc 32 (m1.1 5)), (a1 6, cI cc 32 (m1.1 6)), (a1 7, cI cc 32 (m1.1 7)), (a1 8, cI cc 32 (m1.1 8)), (a1 9, cI cc 6 (m1.1 9))] := rfl
  have k2 : wW shS 10 cc a2 m2 = [(a2 0, .inr (2, fsS 0 a2 (m2.1 0))), (a2 1, cI cc 32 (m2.1 1)), (a2 2, cR cc 4 6 a2 (fun x => 0 + 3 + x)), (a2 3, cI cc 32 (m2.1 3)), (a2 4, cI cc 32 (m2.1 4)), (a2 5, cI cc 32 (m2.1 5)), (a2 6, cI cc 32 (m2.1 6)), (a2 7, cI cc 32 (m2.1 7)), (a2 8, cI cc 32 (m2.1 8)), (a2 9, cI cc 6 (m2.1 9))] := rfl
  have k3 : wW shS 10 cc a3 m3 = [(a3 0, .inr (2, fsS 0 a3 (m3.1 0))), (a3 1, cI cc 32 (m3.1 1)), (a3 2, cR cc 4 6 a3 (fun x => 0 + 3 + x)), (a3 3, cI cc 32 (m3.1 3)), (a3 4, cI cc 32 (m3.1 4)), (a3 5, cI cc 32 (m3.1 5)), (a3 6, cI cc 32 (m3.1 6)), (a3 7, cI cc 32 (m3.1 7)), (a3 8, cI cc 32 (m3.1 8)), (a3 9, cI cc 6 (m3.1 9))] := rfl
  have k6 : wW shO 18 cc a6 zeroM = [(a6 0, .inr (1, fsOb a6 (zeroM.1 0))), (a6 1, .inr (3, fsHo a6 (zeroM.1 1))), (a6 2, cJ cc 4 (zeroM.2 2)), (a6 3, cI cc 8 (zeroM.1 3)), (a6 4, cI cc 8 (zeroM.1 4)), (a6 5, cI cc 8 (zeroM.1 5)), (a6 6, cI cc 8 (zeroM.1 6)), (a6 7, cJ cc 2880 (zeroM.2 7)), (a6 8, cR cc 4 7 a6 (fun x => 9 + x)), (a6 9, cI cc 32 (zeroM.1 9)), (a6 10, cI cc 32 (zeroM.1 10)), (a6 11, cI cc 32 (zeroM.1 11)), (a6 12, cI cc 32 (zeroM.1 12)), (a6 13, cI cc 32 (zeroM.1 13)), (a6 14, cI cc 32 (zeroM.1 14)), (a6 15, cI cc 32 (zeroM.1 15)), (a6 16, cI cc 6 (zeroM.1 16)), (a6 17, cI cc 6 (zeroM.1 17))] := rfl
  rw [k1, k2, k3, k6, e1, e2, e3, e4]
  rfl

set_option maxHeartbeats 4000000 in
set_option maxRecDepth 100000 in
theorem c_X5_init (l : Launch) (D : va_G) (cc : Nat → ClassId) (h0 sz : Nat) (PS : Mem → Prop) (hPS : f_J7_fill_53178 1 32 (-1) memS PS) : Met l yX5_init wsX5_init ({ frames := 3, cells := 66, slots := 4638, locals := 64 }) (va_Pc [.ref h0] (NCP D cc sz [(h0, .inr (5, [.null, .null, .null, .null, .null, .int 0, .null, .null, .null, .null, .null, .null]))])) (va_Qv (fun u : (Nat → Nat) × Mem => u.1 0 = h0 ∧ ∃ a b c, PS a ∧ PS b ∧ PS c ∧ u.2 = memX a b c) (fun u t => va_P D vwCl (wW shX 67 cc u.1 u.2) t.heap ∧ va_K D vwCl (tyL cc) t ∧ va_D (va_A [(h0, .inr (5, [.null, .null, .null, .null, .null, .int 0, .null, .null, .null, .null, .null, .null]))] sz) (wW shX 67 cc u.1 u.2)) (va_A [(h0, .inr (5, [.null, .null, .null, .null, .null, .int 0, .null, .null, .null, .null, .null, .null]))] sz)) 66 4638 (va_A [(h0, .inr (5, [.null, .null, .null, .null, .null, .int 0, .null, .null, .null, .null, .null, .null]))] sz) := by
  refine Met.ofW (cc := cX5_init) (maxL := 1) (ret := none) (by decide) rfl ?_
  intro p e s m args below meth c s₁ BB hml hv
  obtain ⟨rfl, hsz, hP, hK, hD0, hNC⟩ := hv
  have hx := BB.exec
  have hb := BB.bytes
  have hr := BB.returns
  have hts := atoms_spec (ws := wsX5_init) BB.pre
  have hown : s.vm.findClass RX5 = some m.cls := findClass_of_methodNamed BB.named
  have hlocks := BB.notSynchronized
  have hin : meth.name = "<init>" := (name_of_methodNamed BB.named BB.method).1
  have hi_X2 : ∀ w ∈ u_ws RX2 TX2 7, w ∈ wsX5_init := by decide +kernel
  have hi_X5 : ∀ w ∈ u_ws RX5 TX5 12, w ∈ wsX5_init := by decide +kernel
  have hi_X4 : ∀ w ∈ u_ws RX4 TX4 10, w ∈ wsX5_init := by decide +kernel
  have hi_X0 : ∀ w ∈ u_ws RX0 TX0 9, w ∈ wsX5_init := by decide +kernel
  have hi_X1 : ∀ w ∈ u_ws RX1 TX1 7, w ∈ wsX5_init := by decide +kernel
  have hw0 := hts (.methodLink RX5 3 objectInit) (by decide +kernel)
  have hw1 := hts (.instanceMethod objectInit) (by decide +kernel)
  have hw2 := hts (.code objectInit ⟨#[0xb1]⟩ 1 none) (by decide +kernel)
  have hw3 := hts (.classLink RX5 9 RX2) (by decide +kernel)
  have hw4 := hts (.instantiable RX2 7) (by decide +kernel)
  have hw5 := hts (.initialized RX2) (by decide +kernel)
  have hw6 := hts (.methodLink RX5 11 yX2_init) (by decide +kernel)
  have hw7 := hts (.instanceMethod yX2_init) (by decide +kernel)
  have hw8 := hts (.fieldLink RX5 12 "FeatureClashes" "setup" "LFeatureClashes$Setup;") (by decide +kernel)
  have hw9 := hts (.classLink RX5 9 "FeatureClashes$Setup") (by decide +kernel)
  have hw10 := hts (.fieldLink RX5 16 "FeatureClashes" "slots" "[LFeatureClashes$Setup;") (by decide +kernel)
  have hw11 := hts (.arrayClass .boolean) (by decide +kernel)
  have hw12 := hts (.fieldLink RX5 20 "FeatureClashes" "saved" "[Z") (by decide +kernel)
  have hw13 := hts (.classLink RX5 24 RX4) (by decide +kernel)
  have hw14 := hts (.instantiable RX4 10) (by decide +kernel)
  have hw15 := hts (.initialized RX4) (by decide +kernel)
  have hw16 := hts (.instanceMethod yX4_init) (by decide +kernel)
  have hw17 := hts (.fieldLink RX5 27 "FeatureClashes" "text" "LFeatureClashes$Text;") (by decide +kernel)
  have hw18 := hts (.arrayClass .int) (by decide +kernel)
  have hw19 := hts (.fieldLink RX5 31 "FeatureClashes" "word" "[I") (by decide +kernel)
  have hw20 := hts (.fieldLink RX5 35 "FeatureClashes" "wordLength" "I") (by decide +kernel)
  have hw21 := hts (.fieldLink RX5 39 "FeatureClashes" "firstMachine" "[I") (by decide +kernel)
  have hw22 := hts (.fieldLink RX5 42 "FeatureClashes" "secondMachine" "[I") (by decide +kernel)
  have hw23 := hts (.fieldLink RX5 45 "FeatureClashes" "resolvedOrder" "[I") (by decide +kernel)
  have hw24 := hts (.fieldLink RX5 48 "FeatureClashes" "orderCounts" "[I") (by decide +kernel)
  have hw25 := hts (.classLink RX5 51 RX0) (by decide +kernel)
  have hw26 := hts (.instantiable RX0 9) (by decide +kernel)
  have hw27 := hts (.initialized RX0) (by decide +kernel)
  have hw28 := hts (.instanceMethod yX0_init) (by decide +kernel)
  have hw29 := hts (.fieldLink RX5 54 "FeatureClashes" "difference" "LFeatureClashes$Difference;") (by decide +kernel)
  have hw30 := hts (.classLink RX5 58 RX1) (by decide +kernel)
  have hw31 := hts (.instantiable RX1 7) (by decide +kernel)
  have hw32 := hts (.initialized RX1) (by decide +kernel)
  have hw33 := hts (.instanceMethod yX1_init) (by decide +kernel)
  have hw34 := hts (.fieldLink RX5 61 "FeatureClashes" "outcomes" "LFeatureClashes$Outcomes;") (by decide +kernel)
  subst hsz
  have hD := hD0.self (sz := s.heap.size)
  generalize hAe : va_A [(h0, .inr (5, [.null, .null, .null, .null, .null, .int 0, .null, .null, .null, .null, .null, .null]))] s.heap.size = A at hD ⊢
  have hA : ∀ q : Nat, s.heap.size ≤ q → A q := fun q h => by rw [← hAe]; exact Or.inr h
  have hS : va_S A s.heap s.heap [] := va_S.rf
  have hP : va_P D vwCl [(h0, .inr (5, [.null, .null, .null, .null, .null, .int 0, .null, .null, .null, .null, .null, .null]))] s.heap := hP
  have hl := lv_entry ([.ref h0]) (n := 1) (Nat.le_of_ble_eq_true rfl)
  rw [lg_entry_eq]
  generalize (lg_sl ([.ref h0]) ++ List.replicate (1 - (lg_sl ([.ref h0])).length) Slot.unset).toArray = ls at hl ⊢
  have hl : lv_has ls 1 [(0, .ref h0)] := hl
  refine lv_aload_n hx hb dX5_init_0 rfl (lv_at hl 0 rfl) ?_
  refine W.objInit hx hb hown hw0 hw1 hw2 rfl (by rw [hml]; exact hl.1) rfl dX5_init_1 (Nat.le_of_ble_eq_true rfl) (Nat.le_of_ble_eq_true rfl) ?_
  refine W.eq (g2 := F0 m 4 ls []) rfl ?_
  refine lv_aload_n hx hb dX5_init_4 rfl (lv_at hl 0 rfl) ?_
  refine va_new (ci := 2) (fs := [.int 0, .int 0, .int 0, .int 0, .null, .null, .null]) (C := RX2) (T := TX2) (N := 7) hx hb hts hi_X2 tyX2 tyX2_ok hown hw3 hw4 hw5 hK hP hD hS hA rfl (fun j hj => by rcases (show j = 0 ∨ j = 1 ∨ j = 2 ∨ j = 3 ∨ j = 4 ∨ j = 5 ∨ j = 6 by omega) with rfl | rfl | rfl | rfl | rfl | rfl | rfl <;> rfl) (Nat.le_of_ble_eq_true rfl) (Nat.le_of_ble_eq_true rfl) dX5_init_5 (fun q1 H hP hD hS => ?_)
  have hP : va_P D vwCl ((h0, .inr (5, [.null, .null, .null, .null, .null, .int 0, .null, .null, .null, .null, .null, .null])) :: ([] ++ [(q1, .inr (2, [.int 0, .int 0, .int 0, .int 0, .null, .null, .null]))])) H := hP
  have hD : va_D A ((h0, .inr (5, [.null, .null, .null, .null, .null, .int 0, .null, .null, .null, .null, .null, .null])) :: ([] ++ [(q1, .inr (2, [.int 0, .int 0, .int 0, .int 0, .null, .null, .null]))])) := hD
  refine W.widen (k := 1) (n := 7) (Nat.le_of_ble_eq_true rfl) (Nat.le_of_ble_eq_true rfl) ?_
  refine lv_dup hx hb dX5_init_8 rfl ?_
  have hP : va_P D vwCl (((h0, .inr (5, [.null, .null, .null, .null, .null, .int 0, .null, .null, .null, .null, .null, .null])) :: []) ++ [(q1, .inr (2, [.int 0, .int 0, .int 0, .int 0, .null, .null, .null]))]) H := hP
  have hD : va_D A (((h0, .inr (5, [.null, .null, .null, .null, .null, .int 0, .null, .null, .null, .null, .null, .null])) :: []) ++ [(q1, .inr (2, [.int 0, .int 0, .int 0, .int 0, .null, .null, .null]))]) := hD
  have hPc := zn_tail hP
  have hDc := zn_tailD hD
  have hFc := zn_free hD hS hA
  refine va_callv (va_runI (As := []) (rest := [.ref q1, .ref h0]) ⟨hx, hb, hml, hown, hts⟩ (c_X2_init l D cc q1 H.size PS hPS) (cwI 0 hts gX5_init_X2_init rfl rfl rfl hw5 hw6 hw7 rfl (by decide +kernel) ⟨Nat.le_of_ble_eq_true rfl, Nat.le_of_ble_eq_true rfl⟩) ⟨NC_blind, fun U hU hW => ⟨rfl, by rw [hU], by rw [hU]; exact hPc, va_K.moved hW.alike hK, hDc.weaken (fun _ _ _ _ => trivial), hNC.warm hW⟩⟩ rfl rfl hl.1 rfl (lv_room (Nat.le_of_ble_eq_true rfl)) dX5_init_9 ⟨Nat.le_of_ble_eq_true rfl, Nat.le_of_ble_eq_true rfl⟩) hS (fun q _ h => hFc q h) hFc (fun u1 t H1 locs ht hvm hwu1 hB hz1 hk1 hS => ?_)
  obtain ⟨hP1, hK1, hD1⟩ := hB
  rw [ht] at hP1
  obtain ⟨hP, hD⟩ := zn_app (w1 := wW shS 10 cc u1.1 u1.2) hP hD hk1 hFc hP1 hD1
  generalize H1 = H at hP hS ⊢
  have hP : va_P D vwCl ((h0, .inr (5, [.null, .null, .null, .null, .null, .int 0, .null, .null, .null, .null, .null, .null])) :: ([] ++ wW shS 10 cc u1.1 u1.2)) H := hP
  have hD : va_D A ((h0, .inr (5, [.null, .null, .null, .null, .null, .int 0, .null, .null, .null, .null, .null, .null])) :: ([] ++ wW shS 10 cc u1.1 u1.2)) := hD
  refine W.widen (k := 10) (n := 243) (Nat.le_of_ble_eq_true rfl) (Nat.le_of_ble_eq_true rfl) ?_
  have ezu1 : q1 = u1.1 0 := hwu1.1.symm
  rw [ezu1]
  refine va_putF (D := D) (ci := 5) (v := .ref (u1.1 0)) (ty := .object "FeatureClashes$Setup") (C := RX5) (T := TX5) (N := 12) hx hb hts hi_X5 tyX5 tyX5_ok nmX5 hown hK hP hD hS 0 rfl rfl 0 (by decide) hw8 (fun _ h9 => h9) rfl hin rfl (by decide +kernel) rfl rfl (Nat.le_of_ble_eq_true rfl) dX5_init_12 (fun H locs hP hD hS => ?_)
  have hP : va_P D vwCl ((h0, .inr (5, [.ref (u1.1 0), .null, .null, .null, .null, .int 0, .null, .null, .null, .null, .null, .null])) :: ([] ++ wW shS 10 cc u1.1 u1.2)) H := hP
  have hD : va_D A ((h0, .inr (5, [.ref (u1.1 0), .null, .null, .null, .null, .int 0, .null, .null, .null, .null, .null, .null])) :: ([] ++ wW shS 10 cc u1.1 u1.2)) := hD
  refine lv_aload_n hx hb dX5_init_15 rfl (lv_at hl 0 rfl) ?_
  refine lv_iconst (v := 2) hx hb dX5_init_16 (by decide) ?_
  refine zn_newS (N' := 2) hx hb hown hw9 hNC.2.2.1 hK hP hD hS hA (by decide) (by decide) (Nat.le_of_ble_eq_true rfl) (Nat.le_of_ble_eq_true rfl) (Nat.le_of_ble_eq_true rfl) dX5_init_17 (fun q2 H hP hD hS => ?_)
  have hP : va_P D vwCl ((h0, .inr (5, [.ref (u1.1 0), .null, .null, .null, .null, .int 0, .null, .null, .null, .null, .null, .null])) :: (([] ++ wW shS 10 cc u1.1 u1.2) ++ [(q2, .inl (cc 3, 2, .inr (.inr (.inr (.inr (fun _ => none))))))])) H := hP
  have hD : va_D A ((h0, .inr (5, [.ref (u1.1 0), .null, .null, .null, .null, .int 0, .null, .null, .null, .null, .null, .null])) :: (([] ++ wW shS 10 cc u1.1 u1.2) ++ [(q2, .inl (cc 3, 2, .inr (.inr (.inr (.inr (fun _ => none))))))])) := hD
  refine W.widen (k := 11) (n := 245) (Nat.le_of_ble_eq_true rfl) (Nat.le_of_ble_eq_true rfl) ?_
  refine lv_dup hx hb dX5_init_20 rfl ?_
  refine lv_iconst (v := 0) hx hb dX5_init_21 (by decide) ?_
  refine va_new (ci := 2) (fs := [.int 0, .int 0, .int 0, .int 0, .null, .null, .null]) (C := RX2) (T := TX2) (N := 7) hx hb hts hi_X2 tyX2 tyX2_ok hown hw3 hw4 hw5 hK hP hD hS hA rfl (fun j hj => by rcases (show j = 0 ∨ j = 1 ∨ j = 2 ∨ j = 3 ∨ j = 4 ∨ j = 5 ∨ j = 6 by omega) with rfl | rfl | rfl | rfl | rfl | rfl | rfl <;> rfl) (Nat.le_of_ble_eq_true rfl) (Nat.le_of_ble_eq_true rfl) dX5_init_22 (fun q3 H hP hD hS => ?_)
  have hP : va_P D vwCl ((h0, .inr (5, [.ref (u1.1 0), .null, .null, .null, .null, .int 0, .null, .null, .null, .null, .null, .null])) :: ((([] ++ wW shS 10 cc u1.1 u1.2) ++ [(q2, .inl (cc 3, 2, .inr (.inr (.inr (.inr (fun _ => none))))))]) ++ [(q3, .inr (2, [.int 0, .int 0, .int 0, .int 0, .null, .null, .null]))])) H := hP
  have hD : va_D A ((h0, .inr (5, [.ref (u1.1 0), .null, .null, .null, .null, .int 0, .null, .null, .null, .null, .null, .null])) :: ((([] ++ wW shS 10 cc u1.1 u1.2) ++ [(q2, .inl (cc 3, 2, .inr (.inr (.inr (.inr (fun _ => none))))))]) ++ [(q3, .inr (2, [.int 0, .int 0, .int 0, .int 0, .null, .null, .null]))])) := hD
  refine W.widen (k := 12) (n := 252) (Nat.le_of_ble_eq_true rfl) (Nat.le_of_ble_eq_true rfl) ?_
  refine lv_dup hx hb dX5_init_25 rfl ?_
  have hP : va_P D vwCl (((h0, .inr (5, [.ref (u1.1 0), .null, .null, .null, .null, .int 0, .null, .null, .null, .null, .null, .null])) :: (([] ++ wW shS 10 cc u1.1 u1.2) ++ [(q2, .inl (cc 3, 2, .inr (.inr (.inr (.inr (fun _ => none))))))])) ++ [(q3, .inr (2, [.int 0, .int 0, .int 0, .int 0, .null, .null, .null]))]) H := hP
  have hD : va_D A (((h0, .inr (5, [.ref (u1.1 0), .null, .null, .null, .null, .int 0, .null, .null, .null, .null, .null, .null])) :: (([] ++ wW shS 10 cc u1.1 u1.2) ++ [(q2, .inl (cc 3, 2, .inr (.inr (.inr (.inr (fun _ => none))))))])) ++ [(q3, .inr (2, [.int 0, .int 0, .int 0, .int 0, .null, .null, .null]))]) := hD
  have hPc := zn_tail hP
  have hDc := zn_tailD hD
  have hFc := zn_free hD hS hA
  refine va_callv (va_runI (As := []) (rest := [.ref q3, .int 0, .ref q2, .ref q2, .ref h0]) ⟨hx, hb, hml, hown, hts⟩ (c_X2_init l D cc q3 H.size PS hPS) (cwI 0 hts gX5_init_X2_init rfl rfl rfl hw5 hw6 hw7 rfl (by decide +kernel) ⟨Nat.le_of_ble_eq_true rfl, Nat.le_of_ble_eq_true rfl⟩) ⟨NC_blind, fun U hU hW => ⟨rfl, by rw [hU], by rw [hU]; exact hPc, va_K.moved hW.alike hK, hDc.weaken (fun _ _ _ _ => trivial), hNC.warm hW⟩⟩ rfl rfl hl.1 rfl (lv_room (Nat.le_of_ble_eq_true rfl)) dX5_init_26 ⟨Nat.le_of_ble_eq_true rfl, Nat.le_of_ble_eq_true rfl⟩) hS (fun q _ h => hFc q h) hFc (fun u3 t H1 locs ht hvm hwu3 hB hz1 hk1 hS => ?_)
  obtain ⟨hP1, hK1, hD1⟩ := hB
  rw [ht] at hP1
  obtain ⟨hP, hD⟩ := zn_app (w1 := wW shS 10 cc u3.1 u3.2) hP hD hk1 hFc hP1 hD1
  generalize H1 = H at hP hS ⊢
  have hP : va_P D vwCl ((h0, .inr (5, [.ref (u1.1 0), .null, .null, .null, .null, .int 0, .null, .null, .null, .null, .null, .null])) :: ((([] ++ wW shS 10 cc u1.1 u1.2) ++ [(q2, .inl (cc 3, 2, .inr (.inr (.inr (.inr (fun _ => none))))))]) ++ wW shS 10 cc u3.1 u3.2)) H := hP
  have hD : va_D A ((h0, .inr (5, [.ref (u1.1 0), .null, .null, .null, .null, .int 0, .null, .null, .null, .null, .null, .null])) :: ((([] ++ wW shS 10 cc u1.1 u1.2) ++ [(q2, .inl (cc 3, 2, .inr (.inr (.inr (.inr (fun _ => none))))))]) ++ wW shS 10 cc u3.1 u3.2)) := hD
  refine W.widen (k := 21) (n := 488) (Nat.le_of_ble_eq_true rfl) (Nat.le_of_ble_eq_true rfl) ?_
  have ezu3 : q3 = u3.1 0 := hwu3.1.symm
  rw [ezu3]
  refine va_astq (r := (RX2, TX2, 7)) hx hb hK hP hD hS 11 3 12 2 (f := (fun _ => none)) rfl rfl rfl rfl (i := 0) (by unfold vp_in; decide) dX5_init_29 (fun H locs hP hD hS => ?_)
  have hP : va_P D vwCl ((h0, .inr (5, [.ref (u1.1 0), .null, .null, .null, .null, .int 0, .null, .null, .null, .null, .null, .null])) :: ((([] ++ wW shS 10 cc u1.1 u1.2) ++ [(q2, .inl (cc 3, 2, .inr (.inr (.inr (.inr (va_up (fun _ => none) 0 (some (u3.1 0))))))))]) ++ wW shS 10 cc u3.1 u3.2)) H := hP
  have hD : va_D A ((h0, .inr (5, [.ref (u1.1 0), .null, .null, .null, .null, .int 0, .null, .null, .null, .null, .null, .null])) :: ((([] ++ wW shS 10 cc u1.1 u1.2) ++ [(q2, .inl (cc 3, 2, .inr (.inr (.inr (.inr (va_up (fun _ => none) 0 (some (u3.1 0))))))))]) ++ wW shS 10 cc u3.1 u3.2)) := hD
  refine lv_dup hx hb dX5_init_30 rfl ?_
  refine lv_iconst (v := 1) hx hb dX5_init_31 (by decide) ?_
  refine va_new (ci := 2) (fs := [.int 0, .int 0, .int 0, .int 0, .null, .null, .null]) (C := RX2) (T := TX2) (N := 7) hx hb hts hi_X2 tyX2 tyX2_ok hown hw3 hw4 hw5 hK hP hD hS hA rfl (fun j hj => by rcases (show j = 0 ∨ j = 1 ∨ j = 2 ∨ j = 3 ∨ j = 4 ∨ j = 5 ∨ j = 6 by omega) with rfl | rfl | rfl | rfl | rfl | rfl | rfl <;> rfl) (Nat.le_of_ble_eq_true rfl) (Nat.le_of_ble_eq_true rfl) dX5_init_32 (fun q4 H hP hD hS => ?_)
  have hP : va_P D vwCl ((h0, .inr (5, [.ref (u1.1 0), .null, .null, .null, .null, .int 0, .null, .null, .null, .null, .null, .null])) :: (((([] ++ wW shS 10 cc u1.1 u1.2) ++ [(q2, .inl (cc 3, 2, .inr (.inr (.inr (.inr (va_up (fun _ => none) 0 (some (u3.1 0))))))))]) ++ wW shS 10 cc u3.1 u3.2) ++ [(q4, .inr (2, [.int 0, .int 0, .int 0, .int 0, .null, .null, .null]))])) H := hP
  have hD : va_D A ((h0, .inr (5, [.ref (u1.1 0), .null, .null, .null, .null, .int 0, .null, .null, .null, .null, .null, .null])) :: (((([] ++ wW shS 10 cc u1.1 u1.2) ++ [(q2, .inl (cc 3, 2, .inr (.inr (.inr (.inr (va_up (fun _ => none) 0 (some (u3.1 0))))))))]) ++ wW shS 10 cc u3.1 u3.2) ++ [(q4, .inr (2, [.int 0, .int 0, .int 0, .int 0, .null, .null, .null]))])) := hD
  refine W.widen (k := 22) (n := 495) (Nat.le_of_ble_eq_true rfl) (Nat.le_of_ble_eq_true rfl) ?_
  refine lv_dup hx hb dX5_init_35 rfl ?_
  have hP : va_P D vwCl (((h0, .inr (5, [.ref (u1.1 0), .null, .null, .null, .null, .int 0, .null, .null, .null, .null, .null, .null])) :: ((([] ++ wW shS 10 cc u1.1 u1.2) ++ [(q2, .inl (cc 3, 2, .inr (.inr (.inr (.inr (va_up (fun _ => none) 0 (some (u3.1 0))))))))]) ++ wW shS 10 cc u3.1 u3.2)) ++ [(q4, .inr (2, [.int 0, .int 0, .int 0, .int 0, .null, .null, .null]))]) H := hP
  have hD : va_D A (((h0, .inr (5, [.ref (u1.1 0), .null, .null, .null, .null, .int 0, .null, .null, .null, .null, .null, .null])) :: ((([] ++ wW shS 10 cc u1.1 u1.2) ++ [(q2, .inl (cc 3, 2, .inr (.inr (.inr (.inr (va_up (fun _ => none) 0 (some (u3.1 0))))))))]) ++ wW shS 10 cc u3.1 u3.2)) ++ [(q4, .inr (2, [.int 0, .int 0, .int 0, .int 0, .null, .null, .null]))]) := hD
  have hPc := zn_tail hP
  have hDc := zn_tailD hD
  have hFc := zn_free hD hS hA
  refine va_callv (va_runI (As := []) (rest := [.ref q4, .int 1, .ref q2, .ref q2, .ref h0]) ⟨hx, hb, hml, hown, hts⟩ (c_X2_init l D cc q4 H.size PS hPS) (cwI 0 hts gX5_init_X2_init rfl rfl rfl hw5 hw6 hw7 rfl (by decide +kernel) ⟨Nat.le_of_ble_eq_true rfl, Nat.le_of_ble_eq_true rfl⟩) ⟨NC_blind, fun U hU hW => ⟨rfl, by rw [hU], by rw [hU]; exact hPc, va_K.moved hW.alike hK, hDc.weaken (fun _ _ _ _ => trivial), hNC.warm hW⟩⟩ rfl rfl hl.1 rfl (lv_room (Nat.le_of_ble_eq_true rfl)) dX5_init_36 ⟨Nat.le_of_ble_eq_true rfl, Nat.le_of_ble_eq_true rfl⟩) hS (fun q _ h => hFc q h) hFc (fun u4 t H1 locs ht hvm hwu4 hB hz1 hk1 hS => ?_)
  obtain ⟨hP1, hK1, hD1⟩ := hB
  rw [ht] at hP1
  obtain ⟨hP, hD⟩ := zn_app (w1 := wW shS 10 cc u4.1 u4.2) hP hD hk1 hFc hP1 hD1
  generalize H1 = H at hP hS ⊢
  have hP : va_P D vwCl ((h0, .inr (5, [.ref (u1.1 0), .null, .null, .null, .null, .int 0, .null, .null, .null, .null, .null, .null])) :: (((([] ++ wW shS 10 cc u1.1 u1.2) ++ [(q2, .inl (cc 3, 2, .inr (.inr (.inr (.inr (va_up (fun _ => none) 0 (some (u3.1 0))))))))]) ++ wW shS 10 cc u3.1 u3.2) ++ wW shS 10 cc u4.1 u4.2)) H := hP
  have hD : va_D A ((h0, .inr (5, [.ref (u1.1 0), .null, .null, .null, .null, .int 0, .null, .null, .null, .null, .null, .null])) :: (((([] ++ wW shS 10 cc u1.1 u1.2) ++ [(q2, .inl (cc 3, 2, .inr (.inr (.inr (.inr (va_up (fun _ => none) 0 (some (u3.1 0))))))))]) ++ wW shS 10 cc u3.1 u3.2) ++ wW shS 10 cc u4.1 u4.2)) := hD
  refine W.widen (k := 31) (n := 731) (Nat.le_of_ble_eq_true rfl) (Nat.le_of_ble_eq_true rfl) ?_
  have ezu4 : q4 = u4.1 0 := hwu4.1.symm
  rw [ezu4]
  refine va_astq (r := (RX2, TX2, 7)) hx hb hK hP hD hS 11 3 22 2 (f := (va_up (fun _ => none) 0 (some (u3.1 0)))) rfl rfl rfl rfl (i := 1) (by unfold vp_in; decide) dX5_init_39 (fun H locs hP hD hS => ?_)
  have hP : va_P D vwCl ((h0, .inr (5, [.ref (u1.1 0), .null, .null, .null, .null, .int 0, .null, .null, .null, .null, .null, .null])) :: (((([] ++ wW shS 10 cc u1.1 u1.2) ++ [(q2, .inl (cc 3, 2, .inr (.inr (.inr (.inr (va_up (va_up (fun _ => none) 0 (some (u3.1 0))) 1 (some (u4.1 0))))))))]) ++ wW shS 10 cc u3.1 u3.2) ++ wW shS 10 cc u4.1 u4.2)) H := hP
  have hD : va_D A ((h0, .inr (5, [.ref (u1.1 0), .null, .null, .null, .null, .int 0, .null, .null, .null, .null, .null, .null])) :: (((([] ++ wW shS 10 cc u1.1 u1.2) ++ [(q2, .inl (cc 3, 2, .inr (.inr (.inr (.inr (va_up (va_up (fun _ => none) 0 (some (u3.1 0))) 1 (some (u4.1 0))))))))]) ++ wW shS 10 cc u3.1 u3.2) ++ wW shS 10 cc u4.1 u4.2)) := hD
  refine va_putF (D := D) (ci := 5) (v := .ref q2) (ty := .array (.object "FeatureClashes$Setup")) (C := RX5) (T := TX5) (N := 12) hx hb hts hi_X5 tyX5 tyX5_ok nmX5 hown hK hP hD hS 0 rfl rfl 1 (by decide) hw10 (fun _ h9 => h9) rfl hin rfl (by decide +kernel) rfl rfl (Nat.le_of_ble_eq_true rfl) dX5_init_40 (fun H locs hP hD hS => ?_)
  have hP : va_P D vwCl ((h0, .inr (5, [.ref (u1.1 0), .ref q2, .null, .null, .null, .int 0, .null, .null, .null, .null, .null, .null])) :: (((([] ++ wW shS 10 cc u1.1 u1.2) ++ [(q2, .inl (cc 3, 2, .inr (.inr (.inr (.inr (va_up (va_up (fun _ => none) 0 (some (u3.1 0))) 1 (some (u4.1 0))))))))]) ++ wW shS 10 cc u3.1 u3.2) ++ wW shS 10 cc u4.1 u4.2)) H := hP
  have hD : va_D A ((h0, .inr (5, [.ref (u1.1 0), .ref q2, .null, .null, .null, .int 0, .null, .null, .null, .null, .null, .null])) :: (((([] ++ wW shS 10 cc u1.1 u1.2) ++ [(q2, .inl (cc 3, 2, .inr (.inr (.inr (.inr (va_up (va_up (fun _ => none) 0 (some (u3.1 0))) 1 (some (u4.1 0))))))))]) ++ wW shS 10 cc u3.1 u3.2) ++ wW shS 10 cc u4.1 u4.2)) := hD
  refine lv_aload_n hx hb dX5_init_43 rfl (lv_at hl 0 rfl) ?_
  refine lv_iconst (v := 2) hx hb dX5_init_44 (by decide) ?_
  refine zn_newz (N' := 2) hx hb hw11 hK hP hD hS hA (by decide) (by decide) (Nat.le_of_ble_eq_true rfl) (Nat.le_of_ble_eq_true rfl) (Nat.le_of_ble_eq_true rfl) dX5_init_45 (fun q5 H hP hD hS => ?_)
  have hP : va_P D vwCl ((h0, .inr (5, [.ref (u1.1 0), .ref q2, .null, .null, .null, .int 0, .null, .null, .null, .null, .null, .null])) :: ((((([] ++ wW shS 10 cc u1.1 u1.2) ++ [(q2, .inl (cc 3, 2, .inr (.inr (.inr (.inr (va_up (va_up (fun _ => none) 0 (some (u3.1 0))) 1 (some (u4.1 0))))))))]) ++ wW shS 10 cc u3.1 u3.2) ++ wW shS 10 cc u4.1 u4.2) ++ [(q5, cZ cc 2 (fun _ => 0))])) H := hP
  have hD : va_D A ((h0, .inr (5, [.ref (u1.1 0), .ref q2, .null, .null, .null, .int 0, .null, .null, .null, .null, .null, .null])) :: ((((([] ++ wW shS 10 cc u1.1 u1.2) ++ [(q2, .inl (cc 3, 2, .inr (.inr (.inr (.inr (va_up (va_up (fun _ => none) 0 (some (u3.1 0))) 1 (some (u4.1 0))))))))]) ++ wW shS 10 cc u3.1 u3.2) ++ wW shS 10 cc u4.1 u4.2) ++ [(q5, cZ cc 2 (fun _ => 0))])) := hD
  refine W.widen (k := 32) (n := 733) (Nat.le_of_ble_eq_true rfl) (Nat.le_of_ble_eq_true rfl) ?_
  refine va_putF (D := D) (ci := 5) (v := .ref q5) (ty := .array .boolean) (C := RX5) (T := TX5) (N := 12) hx hb hts hi_X5 tyX5 tyX5_ok nmX5 hown hK hP hD hS 0 rfl rfl 2 (by decide) hw12 (fun _ h9 => h9) rfl hin rfl (by decide +kernel) rfl rfl (Nat.le_of_ble_eq_true rfl) dX5_init_47 (fun H locs hP hD hS => ?_)
  have hP : va_P D vwCl ((h0, .inr (5, [.ref (u1.1 0), .ref q2, .ref q5, .null, .null, .int 0, .null, .null, .null, .null, .null, .null])) :: ((((([] ++ wW shS 10 cc u1.1 u1.2) ++ [(q2, .inl (cc 3, 2, .inr (.inr (.inr (.inr (va_up (va_up (fun _ => none) 0 (some (u3.1 0))) 1 (some (u4.1 0))))))))]) ++ wW shS 10 cc u3.1 u3.2) ++ wW shS 10 cc u4.1 u4.2) ++ [(q5, cZ cc 2 (fun _ => 0))])) H := hP
  have hD : va_D A ((h0, .inr (5, [.ref (u1.1 0), .ref q2, .ref q5, .null, .null, .int 0, .null, .null, .null, .null, .null, .null])) :: ((((([] ++ wW shS 10 cc u1.1 u1.2) ++ [(q2, .inl (cc 3, 2, .inr (.inr (.inr (.inr (va_up (va_up (fun _ => none) 0 (some (u3.1 0))) 1 (some (u4.1 0))))))))]) ++ wW shS 10 cc u3.1 u3.2) ++ wW shS 10 cc u4.1 u4.2) ++ [(q5, cZ cc 2 (fun _ => 0))])) := hD
  refine lv_aload_n hx hb dX5_init_50 rfl (lv_at hl 0 rfl) ?_
  refine va_new (ci := 4) (fs := [.null, .int 0, .null, .int 0, .int 0, .int 0, .int 0, .int 0, .int 0, .int 0]) (C := RX4) (T := TX4) (N := 10) hx hb hts hi_X4 tyX4 tyX4_ok hown hw13 hw14 hw15 hK hP hD hS hA rfl (fun j hj => by rcases (show j = 0 ∨ j = 1 ∨ j = 2 ∨ j = 3 ∨ j = 4 ∨ j = 5 ∨ j = 6 ∨ j = 7 ∨ j = 8 ∨ j = 9 by omega) with rfl | rfl | rfl | rfl | rfl | rfl | rfl | rfl | rfl | rfl <;> rfl) (Nat.le_of_ble_eq_true rfl) (Nat.le_of_ble_eq_true rfl) dX5_init_51 (fun q6 H hP hD hS => ?_)
  have hP : va_P D vwCl ((h0, .inr (5, [.ref (u1.1 0), .ref q2, .ref q5, .null, .null, .int 0, .null, .null, .null, .null, .null, .null])) :: (((((([] ++ wW shS 10 cc u1.1 u1.2) ++ [(q2, .inl (cc 3, 2, .inr (.inr (.inr (.inr (va_up (va_up (fun _ => none) 0 (some (u3.1 0))) 1 (some (u4.1 0))))))))]) ++ wW shS 10 cc u3.1 u3.2) ++ wW shS 10 cc u4.1 u4.2) ++ [(q5, cZ cc 2 (fun _ => 0))]) ++ [(q6, .inr (4, [.null, .int 0, .null, .int 0, .int 0, .int 0, .int 0, .int 0, .int 0, .int 0]))])) H := hP
  have hD : va_D A ((h0, .inr (5, [.ref (u1.1 0), .ref q2, .ref q5, .null, .null, .int 0, .null, .null, .null, .null, .null, .null])) :: (((((([] ++ wW shS 10 cc u1.1 u1.2) ++ [(q2, .inl (cc 3, 2, .inr (.inr (.inr (.inr (va_up (va_up (fun _ => none) 0 (some (u3.1 0))) 1 (some (u4.1 0))))))))]) ++ wW shS 10 cc u3.1 u3.2) ++ wW shS 10 cc u4.1 u4.2) ++ [(q5, cZ cc 2 (fun _ => 0))]) ++ [(q6, .inr (4, [.null, .int 0, .null, .int 0, .int 0, .int 0, .int 0, .int 0, .int 0, .int 0]))])) := hD
  refine W.widen (k := 33) (n := 743) (Nat.le_of_ble_eq_true rfl) (Nat.le_of_ble_eq_true rfl) ?_
  refine lv_dup hx hb dX5_init_54 rfl ?_
  have hP : va_P D vwCl (((h0, .inr (5, [.ref (u1.1 0), .ref q2, .ref q5, .null, .null, .int 0, .null, .null, .null, .null, .null, .null])) :: ((((([] ++ wW shS 10 cc u1.1 u1.2) ++ [(q2, .inl (cc 3, 2, .inr (.inr (.inr (.inr (va_up (va_up (fun _ => none) 0 (some (u3.1 0))) 1 (some (u4.1 0))))))))]) ++ wW shS 10 cc u3.1 u3.2) ++ wW shS 10 cc u4.1 u4.2) ++ [(q5, cZ cc 2 (fun _ => 0))])) ++ [(q6, .inr (4, [.null, .int 0, .null, .int 0, .int 0, .int 0, .int 0, .int 0, .int 0, .int 0]))]) H := hP
  have hD : va_D A (((h0, .inr (5, [.ref (u1.1 0), .ref q2, .ref q5, .null, .null, .int 0, .null, .null, .null, .null, .null, .null])) :: ((((([] ++ wW shS 10 cc u1.1 u1.2) ++ [(q2, .inl (cc 3, 2, .inr (.inr (.inr (.inr (va_up (va_up (fun _ => none) 0 (some (u3.1 0))) 1 (some (u4.1 0))))))))]) ++ wW shS 10 cc u3.1 u3.2) ++ wW shS 10 cc u4.1 u4.2) ++ [(q5, cZ cc 2 (fun _ => 0))])) ++ [(q6, .inr (4, [.null, .int 0, .null, .int 0, .int 0, .int 0, .int 0, .int 0, .int 0, .int 0]))]) := hD
  have hPc := zn_tail hP
  have hDc := zn_tailD hD
  have hFc := zn_free hD hS hA
  refine va_callv (va_runIN (As := []) (rest := [.ref q6, .ref h0]) ⟨hx, hb, hml, hown, hts⟩ (c_X4_init l D cc q6 H.size) ⟨va_cnB (host := "FeatureClashes") 0 hts gX5_init_X4_init_n26 rfl rfl rfl (hNC.1 0 _ rfl) hw15 (by decide +kernel) ⟨Nat.le_of_ble_eq_true rfl, Nat.le_of_ble_eq_true rfl⟩, rfl, hw16⟩ ⟨NC_blind, fun U hU hW => ⟨rfl, by rw [hU], by rw [hU]; exact hPc, va_K.moved hW.alike hK, hDc.weaken (fun _ _ _ _ => trivial), hNC.warm hW⟩⟩ rfl rfl hl.1 rfl (lv_room (Nat.le_of_ble_eq_true rfl)) dX5_init_55 ⟨Nat.le_of_ble_eq_true rfl, Nat.le_of_ble_eq_true rfl⟩) hS (fun q _ h => hFc q h) hFc (fun u6 t H1 locs ht hvm hwu6 hB hz1 hk1 hS => ?_)
  obtain ⟨hP1, hK1, hD1⟩ := hB
  rw [ht] at hP1
  obtain ⟨hP, hD⟩ := zn_app (w1 := wW shT 3 cc u6.1 u6.2) hP hD hk1 hFc hP1 hD1
  generalize H1 = H at hP hS ⊢
  have hP : va_P D vwCl ((h0, .inr (5, [.ref (u1.1 0), .ref q2, .ref q5, .null, .null, .int 0, .null, .null, .null, .null, .null, .null])) :: (((((([] ++ wW shS 10 cc u1.1 u1.2) ++ [(q2, .inl (cc 3, 2, .inr (.inr (.inr (.inr (va_up (va_up (fun _ => none) 0 (some (u3.1 0))) 1 (some (u4.1 0))))))))]) ++ wW shS 10 cc u3.1 u3.2) ++ wW shS 10 cc u4.1 u4.2) ++ [(q5, cZ cc 2 (fun _ => 0))]) ++ wW shT 3 cc u6.1 u6.2)) H := hP
  have hD : va_D A ((h0, .inr (5, [.ref (u1.1 0), .ref q2, .ref q5, .null, .null, .int 0, .null, .null, .null, .null, .null, .null])) :: (((((([] ++ wW shS 10 cc u1.1 u1.2) ++ [(q2, .inl (cc 3, 2, .inr (.inr (.inr (.inr (va_up (va_up (fun _ => none) 0 (some (u3.1 0))) 1 (some (u4.1 0))))))))]) ++ wW shS 10 cc u3.1 u3.2) ++ wW shS 10 cc u4.1 u4.2) ++ [(q5, cZ cc 2 (fun _ => 0))]) ++ wW shT 3 cc u6.1 u6.2)) := hD
  refine W.widen (k := 35) (n := 855) (Nat.le_of_ble_eq_true rfl) (Nat.le_of_ble_eq_true rfl) ?_
  have ezu6 : q6 = u6.1 0 := hwu6.1.symm
  rw [ezu6]
  refine va_putF (D := D) (ci := 5) (v := .ref (u6.1 0)) (ty := .object "FeatureClashes$Text") (C := RX5) (T := TX5) (N := 12) hx hb hts hi_X5 tyX5 tyX5_ok nmX5 hown hK hP hD hS 0 rfl rfl 3 (by decide) hw17 (fun _ h9 => h9) rfl hin rfl (by decide +kernel) rfl rfl (Nat.le_of_ble_eq_true rfl) dX5_init_58 (fun H locs hP hD hS => ?_)
  have hP : va_P D vwCl ((h0, .inr (5, [.ref (u1.1 0), .ref q2, .ref q5, .ref (u6.1 0), .null, .int 0, .null, .null, .null, .null, .null, .null])) :: (((((([] ++ wW shS 10 cc u1.1 u1.2) ++ [(q2, .inl (cc 3, 2, .inr (.inr (.inr (.inr (va_up (va_up (fun _ => none) 0 (some (u3.1 0))) 1 (some (u4.1 0))))))))]) ++ wW shS 10 cc u3.1 u3.2) ++ wW shS 10 cc u4.1 u4.2) ++ [(q5, cZ cc 2 (fun _ => 0))]) ++ wW shT 3 cc u6.1 u6.2)) H := hP
  have hD : va_D A ((h0, .inr (5, [.ref (u1.1 0), .ref q2, .ref q5, .ref (u6.1 0), .null, .int 0, .null, .null, .null, .null, .null, .null])) :: (((((([] ++ wW shS 10 cc u1.1 u1.2) ++ [(q2, .inl (cc 3, 2, .inr (.inr (.inr (.inr (va_up (va_up (fun _ => none) 0 (some (u3.1 0))) 1 (some (u4.1 0))))))))]) ++ wW shS 10 cc u3.1 u3.2) ++ wW shS 10 cc u4.1 u4.2) ++ [(q5, cZ cc 2 (fun _ => 0))]) ++ wW shT 3 cc u6.1 u6.2)) := hD
  refine lv_aload_n hx hb dX5_init_61 rfl (lv_at hl 0 rfl) ?_
  refine lv_bipush (v := 20) hx hb dX5_init_62 (by decide) ?_
  refine zn_newi (N' := 20) hx hb hw18 hK hP hD hS hA (by decide) (by decide) (Nat.le_of_ble_eq_true rfl) (Nat.le_of_ble_eq_true rfl) (Nat.le_of_ble_eq_true rfl) dX5_init_64 (fun q7 H hP hD hS => ?_)
  have hP : va_P D vwCl ((h0, .inr (5, [.ref (u1.1 0), .ref q2, .ref q5, .ref (u6.1 0), .null, .int 0, .null, .null, .null, .null, .null, .null])) :: ((((((([] ++ wW shS 10 cc u1.1 u1.2) ++ [(q2, .inl (cc 3, 2, .inr (.inr (.inr (.inr (va_up (va_up (fun _ => none) 0 (some (u3.1 0))) 1 (some (u4.1 0))))))))]) ++ wW shS 10 cc u3.1 u3.2) ++ wW shS 10 cc u4.1 u4.2) ++ [(q5, cZ cc 2 (fun _ => 0))]) ++ wW shT 3 cc u6.1 u6.2) ++ [(q7, cI cc 20 (fun _ => 0))])) H := hP
  have hD : va_D A ((h0, .inr (5, [.ref (u1.1 0), .ref q2, .ref q5, .ref (u6.1 0), .null, .int 0, .null, .null, .null, .null, .null, .null])) :: ((((((([] ++ wW shS 10 cc u1.1 u1.2) ++ [(q2, .inl (cc 3, 2, .inr (.inr (.inr (.inr (va_up (va_up (fun _ => none) 0 (some (u3.1 0))) 1 (some (u4.1 0))))))))]) ++ wW shS 10 cc u3.1 u3.2) ++ wW shS 10 cc u4.1 u4.2) ++ [(q5, cZ cc 2 (fun _ => 0))]) ++ wW shT 3 cc u6.1 u6.2) ++ [(q7, cI cc 20 (fun _ => 0))])) := hD
  refine W.widen (k := 36) (n := 875) (Nat.le_of_ble_eq_true rfl) (Nat.le_of_ble_eq_true rfl) ?_
  refine va_putF (D := D) (ci := 5) (v := .ref q7) (ty := .array .int) (C := RX5) (T := TX5) (N := 12) hx hb hts hi_X5 tyX5 tyX5_ok nmX5 hown hK hP hD hS 0 rfl rfl 4 (by decide) hw19 (fun _ h9 => h9) rfl hin rfl (by decide +kernel) rfl rfl (Nat.le_of_ble_eq_true rfl) dX5_init_66 (fun H locs hP hD hS => ?_)
  have hP : va_P D vwCl ((h0, .inr (5, [.ref (u1.1 0), .ref q2, .ref q5, .ref (u6.1 0), .ref q7, .int 0, .null, .null, .null, .null, .null, .null])) :: ((((((([] ++ wW shS 10 cc u1.1 u1.2) ++ [(q2, .inl (cc 3, 2, .inr (.inr (.inr (.inr (va_up (va_up (fun _ => none) 0 (some (u3.1 0))) 1 (some (u4.1 0))))))))]) ++ wW shS 10 cc u3.1 u3.2) ++ wW shS 10 cc u4.1 u4.2) ++ [(q5, cZ cc 2 (fun _ => 0))]) ++ wW shT 3 cc u6.1 u6.2) ++ [(q7, cI cc 20 (fun _ => 0))])) H := hP
  have hD : va_D A ((h0, .inr (5, [.ref (u1.1 0), .ref q2, .ref q5, .ref (u6.1 0), .ref q7, .int 0, .null, .null, .null, .null, .null, .null])) :: ((((((([] ++ wW shS 10 cc u1.1 u1.2) ++ [(q2, .inl (cc 3, 2, .inr (.inr (.inr (.inr (va_up (va_up (fun _ => none) 0 (some (u3.1 0))) 1 (some (u4.1 0))))))))]) ++ wW shS 10 cc u3.1 u3.2) ++ wW shS 10 cc u4.1 u4.2) ++ [(q5, cZ cc 2 (fun _ => 0))]) ++ wW shT 3 cc u6.1 u6.2) ++ [(q7, cI cc 20 (fun _ => 0))])) := hD
  refine lv_aload_n hx hb dX5_init_69 rfl (lv_at hl 0 rfl) ?_
  refine lv_iconst (v := 0) hx hb dX5_init_70 (by decide) ?_
  refine va_put (D := D) (ci := 5) (v := .int 0) (ty := .int) (C := RX5) (T := TX5) (N := 12) hx hb hts hi_X5 tyX5 tyX5_ok nmX5 hown hK hP hD hS 0 rfl rfl 5 (by decide) hw20 (fun _ h9 => h9) rfl (by decide +kernel) rfl rfl (Nat.le_of_ble_eq_true rfl) dX5_init_71 (fun H locs hP hD hS => ?_)
  have hP : va_P D vwCl ((h0, .inr (5, [.ref (u1.1 0), .ref q2, .ref q5, .ref (u6.1 0), .ref q7, .int 0, .null, .null, .null, .null, .null, .null])) :: ((((((([] ++ wW shS 10 cc u1.1 u1.2) ++ [(q2, .inl (cc 3, 2, .inr (.inr (.inr (.inr (va_up (va_up (fun _ => none) 0 (some (u3.1 0))) 1 (some (u4.1 0))))))))]) ++ wW shS 10 cc u3.1 u3.2) ++ wW shS 10 cc u4.1 u4.2) ++ [(q5, cZ cc 2 (fun _ => 0))]) ++ wW shT 3 cc u6.1 u6.2) ++ [(q7, cI cc 20 (fun _ => 0))])) H := hP
  have hD : va_D A ((h0, .inr (5, [.ref (u1.1 0), .ref q2, .ref q5, .ref (u6.1 0), .ref q7, .int 0, .null, .null, .null, .null, .null, .null])) :: ((((((([] ++ wW shS 10 cc u1.1 u1.2) ++ [(q2, .inl (cc 3, 2, .inr (.inr (.inr (.inr (va_up (va_up (fun _ => none) 0 (some (u3.1 0))) 1 (some (u4.1 0))))))))]) ++ wW shS 10 cc u3.1 u3.2) ++ wW shS 10 cc u4.1 u4.2) ++ [(q5, cZ cc 2 (fun _ => 0))]) ++ wW shT 3 cc u6.1 u6.2) ++ [(q7, cI cc 20 (fun _ => 0))])) := hD
  refine lv_aload_n hx hb dX5_init_74 rfl (lv_at hl 0 rfl) ?_
  refine lv_bipush (v := 32) hx hb dX5_init_75 (by decide) ?_
  refine zn_newi (N' := 32) hx hb hw18 hK hP hD hS hA (by decide) (by decide) (Nat.le_of_ble_eq_true rfl) (Nat.le_of_ble_eq_true rfl) (Nat.le_of_ble_eq_true rfl) dX5_init_77 (fun q8 H hP hD hS => ?_)
  have hP : va_P D vwCl ((h0, .inr (5, [.ref (u1.1 0), .ref q2, .ref q5, .ref (u6.1 0), .ref q7, .int 0, .null, .null, .null, .null, .null, .null])) :: (((((((([] ++ wW shS 10 cc u1.1 u1.2) ++ [(q2, .inl (cc 3, 2, .inr (.inr (.inr (.inr (va_up (va_up (fun _ => none) 0 (some (u3.1 0))) 1 (some (u4.1 0))))))))]) ++ wW shS 10 cc u3.1 u3.2) ++ wW shS 10 cc u4.1 u4.2) ++ [(q5, cZ cc 2 (fun _ => 0))]) ++ wW shT 3 cc u6.1 u6.2) ++ [(q7, cI cc 20 (fun _ => 0))]) ++ [(q8, cI cc 32 (fun _ => 0))])) H := hP
  have hD : va_D A ((h0, .inr (5, [.ref (u1.1 0), .ref q2, .ref q5, .ref (u6.1 0), .ref q7, .int 0, .null, .null, .null, .null, .null, .null])) :: (((((((([] ++ wW shS 10 cc u1.1 u1.2) ++ [(q2, .inl (cc 3, 2, .inr (.inr (.inr (.inr (va_up (va_up (fun _ => none) 0 (some (u3.1 0))) 1 (some (u4.1 0))))))))]) ++ wW shS 10 cc u3.1 u3.2) ++ wW shS 10 cc u4.1 u4.2) ++ [(q5, cZ cc 2 (fun _ => 0))]) ++ wW shT 3 cc u6.1 u6.2) ++ [(q7, cI cc 20 (fun _ => 0))]) ++ [(q8, cI cc 32 (fun _ => 0))])) := hD
  refine W.widen (k := 37) (n := 907) (Nat.le_of_ble_eq_true rfl) (Nat.le_of_ble_eq_true rfl) ?_
  refine va_putF (D := D) (ci := 5) (v := .ref q8) (ty := .array .int) (C := RX5) (T := TX5) (N := 12) hx hb hts hi_X5 tyX5 tyX5_ok nmX5 hown hK hP hD hS 0 rfl rfl 6 (by decide) hw21 (fun _ h9 => h9) rfl hin rfl (by decide +kernel) rfl rfl (Nat.le_of_ble_eq_true rfl) dX5_init_79 (fun H locs hP hD hS => ?_)
  have hP : va_P D vwCl ((h0, .inr (5, [.ref (u1.1 0), .ref q2, .ref q5, .ref (u6.1 0), .ref q7, .int 0, .ref q8, .null, .null, .null, .null, .null])) :: (((((((([] ++ wW shS 10 cc u1.1 u1.2) ++ [(q2, .inl (cc 3, 2, .inr (.inr (.inr (.inr (va_up (va_up (fun _ => none) 0 (some (u3.1 0))) 1 (some (u4.1 0))))))))]) ++ wW shS 10 cc u3.1 u3.2) ++ wW shS 10 cc u4.1 u4.2) ++ [(q5, cZ cc 2 (fun _ => 0))]) ++ wW shT 3 cc u6.1 u6.2) ++ [(q7, cI cc 20 (fun _ => 0))]) ++ [(q8, cI cc 32 (fun _ => 0))])) H := hP
  have hD : va_D A ((h0, .inr (5, [.ref (u1.1 0), .ref q2, .ref q5, .ref (u6.1 0), .ref q7, .int 0, .ref q8, .null, .null, .null, .null, .null])) :: (((((((([] ++ wW shS 10 cc u1.1 u1.2) ++ [(q2, .inl (cc 3, 2, .inr (.inr (.inr (.inr (va_up (va_up (fun _ => none) 0 (some (u3.1 0))) 1 (some (u4.1 0))))))))]) ++ wW shS 10 cc u3.1 u3.2) ++ wW shS 10 cc u4.1 u4.2) ++ [(q5, cZ cc 2 (fun _ => 0))]) ++ wW shT 3 cc u6.1 u6.2) ++ [(q7, cI cc 20 (fun _ => 0))]) ++ [(q8, cI cc 32 (fun _ => 0))])) := hD
  refine lv_aload_n hx hb dX5_init_82 rfl (lv_at hl 0 rfl) ?_
  refine lv_bipush (v := 32) hx hb dX5_init_83 (by decide) ?_
  refine zn_newi (N' := 32) hx hb hw18 hK hP hD hS hA (by decide) (by decide) (Nat.le_of_ble_eq_true rfl) (Nat.le_of_ble_eq_true rfl) (Nat.le_of_ble_eq_true rfl) dX5_init_85 (fun q9 H hP hD hS => ?_)
  have hP : va_P D vwCl ((h0, .inr (5, [.ref (u1.1 0), .ref q2, .ref q5, .ref (u6.1 0), .ref q7, .int 0, .ref q8, .null, .null, .null, .null, .null])) :: ((((((((([] ++ wW shS 10 cc u1.1 u1.2) ++ [(q2, .inl (cc 3, 2, .inr (.inr (.inr (.inr (va_up (va_up (fun _ => none) 0 (some (u3.1 0))) 1 (some (u4.1 0))))))))]) ++ wW shS 10 cc u3.1 u3.2) ++ wW shS 10 cc u4.1 u4.2) ++ [(q5, cZ cc 2 (fun _ => 0))]) ++ wW shT 3 cc u6.1 u6.2) ++ [(q7, cI cc 20 (fun _ => 0))]) ++ [(q8, cI cc 32 (fun _ => 0))]) ++ [(q9, cI cc 32 (fun _ => 0))])) H := hP
  have hD : va_D A ((h0, .inr (5, [.ref (u1.1 0), .ref q2, .ref q5, .ref (u6.1 0), .ref q7, .int 0, .ref q8, .null, .null, .null, .null, .null])) :: ((((((((([] ++ wW shS 10 cc u1.1 u1.2) ++ [(q2, .inl (cc 3, 2, .inr (.inr (.inr (.inr (va_up (va_up (fun _ => none) 0 (some (u3.1 0))) 1 (some (u4.1 0))))))))]) ++ wW shS 10 cc u3.1 u3.2) ++ wW shS 10 cc u4.1 u4.2) ++ [(q5, cZ cc 2 (fun _ => 0))]) ++ wW shT 3 cc u6.1 u6.2) ++ [(q7, cI cc 20 (fun _ => 0))]) ++ [(q8, cI cc 32 (fun _ => 0))]) ++ [(q9, cI cc 32 (fun _ => 0))])) := hD
  refine W.widen (k := 38) (n := 939) (Nat.le_of_ble_eq_true rfl) (Nat.le_of_ble_eq_true rfl) ?_
  refine va_putF (D := D) (ci := 5) (v := .ref q9) (ty := .array .int) (C := RX5) (T := TX5) (N := 12) hx hb hts hi_X5 tyX5 tyX5_ok nmX5 hown hK hP hD hS 0 rfl rfl 7 (by decide) hw22 (fun _ h9 => h9) rfl hin rfl (by decide +kernel) rfl rfl (Nat.le_of_ble_eq_true rfl) dX5_init_87 (fun H locs hP hD hS => ?_)
  have hP : va_P D vwCl ((h0, .inr (5, [.ref (u1.1 0), .ref q2, .ref q5, .ref (u6.1 0), .ref q7, .int 0, .ref q8, .ref q9, .null, .null, .null, .null])) :: ((((((((([] ++ wW shS 10 cc u1.1 u1.2) ++ [(q2, .inl (cc 3, 2, .inr (.inr (.inr (.inr (va_up (va_up (fun _ => none) 0 (some (u3.1 0))) 1 (some (u4.1 0))))))))]) ++ wW shS 10 cc u3.1 u3.2) ++ wW shS 10 cc u4.1 u4.2) ++ [(q5, cZ cc 2 (fun _ => 0))]) ++ wW shT 3 cc u6.1 u6.2) ++ [(q7, cI cc 20 (fun _ => 0))]) ++ [(q8, cI cc 32 (fun _ => 0))]) ++ [(q9, cI cc 32 (fun _ => 0))])) H := hP
  have hD : va_D A ((h0, .inr (5, [.ref (u1.1 0), .ref q2, .ref q5, .ref (u6.1 0), .ref q7, .int 0, .ref q8, .ref q9, .null, .null, .null, .null])) :: ((((((((([] ++ wW shS 10 cc u1.1 u1.2) ++ [(q2, .inl (cc 3, 2, .inr (.inr (.inr (.inr (va_up (va_up (fun _ => none) 0 (some (u3.1 0))) 1 (some (u4.1 0))))))))]) ++ wW shS 10 cc u3.1 u3.2) ++ wW shS 10 cc u4.1 u4.2) ++ [(q5, cZ cc 2 (fun _ => 0))]) ++ wW shT 3 cc u6.1 u6.2) ++ [(q7, cI cc 20 (fun _ => 0))]) ++ [(q8, cI cc 32 (fun _ => 0))]) ++ [(q9, cI cc 32 (fun _ => 0))])) := hD
  refine lv_aload_n hx hb dX5_init_90 rfl (lv_at hl 0 rfl) ?_
  refine lv_bipush (v := 6) hx hb dX5_init_91 (by decide) ?_
  refine zn_newi (N' := 6) hx hb hw18 hK hP hD hS hA (by decide) (by decide) (Nat.le_of_ble_eq_true rfl) (Nat.le_of_ble_eq_true rfl) (Nat.le_of_ble_eq_true rfl) dX5_init_93 (fun q10 H hP hD hS => ?_)
  have hP : va_P D vwCl ((h0, .inr (5, [.ref (u1.1 0), .ref q2, .ref q5, .ref (u6.1 0), .ref q7, .int 0, .ref q8, .ref q9, .null, .null, .null, .null])) :: (((((((((([] ++ wW shS 10 cc u1.1 u1.2) ++ [(q2, .inl (cc 3, 2, .inr (.inr (.inr (.inr (va_up (va_up (fun _ => none) 0 (some (u3.1 0))) 1 (some (u4.1 0))))))))]) ++ wW shS 10 cc u3.1 u3.2) ++ wW shS 10 cc u4.1 u4.2) ++ [(q5, cZ cc 2 (fun _ => 0))]) ++ wW shT 3 cc u6.1 u6.2) ++ [(q7, cI cc 20 (fun _ => 0))]) ++ [(q8, cI cc 32 (fun _ => 0))]) ++ [(q9, cI cc 32 (fun _ => 0))]) ++ [(q10, cI cc 6 (fun _ => 0))])) H := hP
  have hD : va_D A ((h0, .inr (5, [.ref (u1.1 0), .ref q2, .ref q5, .ref (u6.1 0), .ref q7, .int 0, .ref q8, .ref q9, .null, .null, .null, .null])) :: (((((((((([] ++ wW shS 10 cc u1.1 u1.2) ++ [(q2, .inl (cc 3, 2, .inr (.inr (.inr (.inr (va_up (va_up (fun _ => none) 0 (some (u3.1 0))) 1 (some (u4.1 0))))))))]) ++ wW shS 10 cc u3.1 u3.2) ++ wW shS 10 cc u4.1 u4.2) ++ [(q5, cZ cc 2 (fun _ => 0))]) ++ wW shT 3 cc u6.1 u6.2) ++ [(q7, cI cc 20 (fun _ => 0))]) ++ [(q8, cI cc 32 (fun _ => 0))]) ++ [(q9, cI cc 32 (fun _ => 0))]) ++ [(q10, cI cc 6 (fun _ => 0))])) := hD
  refine W.widen (k := 39) (n := 945) (Nat.le_of_ble_eq_true rfl) (Nat.le_of_ble_eq_true rfl) ?_
  refine va_putF (D := D) (ci := 5) (v := .ref q10) (ty := .array .int) (C := RX5) (T := TX5) (N := 12) hx hb hts hi_X5 tyX5 tyX5_ok nmX5 hown hK hP hD hS 0 rfl rfl 8 (by decide) hw23 (fun _ h9 => h9) rfl hin rfl (by decide +kernel) rfl rfl (Nat.le_of_ble_eq_true rfl) dX5_init_95 (fun H locs hP hD hS => ?_)
  have hP : va_P D vwCl ((h0, .inr (5, [.ref (u1.1 0), .ref q2, .ref q5, .ref (u6.1 0), .ref q7, .int 0, .ref q8, .ref q9, .ref q10, .null, .null, .null])) :: (((((((((([] ++ wW shS 10 cc u1.1 u1.2) ++ [(q2, .inl (cc 3, 2, .inr (.inr (.inr (.inr (va_up (va_up (fun _ => none) 0 (some (u3.1 0))) 1 (some (u4.1 0))))))))]) ++ wW shS 10 cc u3.1 u3.2) ++ wW shS 10 cc u4.1 u4.2) ++ [(q5, cZ cc 2 (fun _ => 0))]) ++ wW shT 3 cc u6.1 u6.2) ++ [(q7, cI cc 20 (fun _ => 0))]) ++ [(q8, cI cc 32 (fun _ => 0))]) ++ [(q9, cI cc 32 (fun _ => 0))]) ++ [(q10, cI cc 6 (fun _ => 0))])) H := hP
  have hD : va_D A ((h0, .inr (5, [.ref (u1.1 0), .ref q2, .ref q5, .ref (u6.1 0), .ref q7, .int 0, .ref q8, .ref q9, .ref q10, .null, .null, .null])) :: (((((((((([] ++ wW shS 10 cc u1.1 u1.2) ++ [(q2, .inl (cc 3, 2, .inr (.inr (.inr (.inr (va_up (va_up (fun _ => none) 0 (some (u3.1 0))) 1 (some (u4.1 0))))))))]) ++ wW shS 10 cc u3.1 u3.2) ++ wW shS 10 cc u4.1 u4.2) ++ [(q5, cZ cc 2 (fun _ => 0))]) ++ wW shT 3 cc u6.1 u6.2) ++ [(q7, cI cc 20 (fun _ => 0))]) ++ [(q8, cI cc 32 (fun _ => 0))]) ++ [(q9, cI cc 32 (fun _ => 0))]) ++ [(q10, cI cc 6 (fun _ => 0))])) := hD
  refine lv_aload_n hx hb dX5_init_98 rfl (lv_at hl 0 rfl) ?_
  refine lv_bipush (v := 64) hx hb dX5_init_99 (by decide) ?_
  refine zn_newi (N' := 64) hx hb hw18 hK hP hD hS hA (by decide) (by decide) (Nat.le_of_ble_eq_true rfl) (Nat.le_of_ble_eq_true rfl) (Nat.le_of_ble_eq_true rfl) dX5_init_101 (fun q11 H hP hD hS => ?_)
  have hP : va_P D vwCl ((h0, .inr (5, [.ref (u1.1 0), .ref q2, .ref q5, .ref (u6.1 0), .ref q7, .int 0, .ref q8, .ref q9, .ref q10, .null, .null, .null])) :: ((((((((((([] ++ wW shS 10 cc u1.1 u1.2) ++ [(q2, .inl (cc 3, 2, .inr (.inr (.inr (.inr (va_up (va_up (fun _ => none) 0 (some (u3.1 0))) 1 (some (u4.1 0))))))))]) ++ wW shS 10 cc u3.1 u3.2) ++ wW shS 10 cc u4.1 u4.2) ++ [(q5, cZ cc 2 (fun _ => 0))]) ++ wW shT 3 cc u6.1 u6.2) ++ [(q7, cI cc 20 (fun _ => 0))]) ++ [(q8, cI cc 32 (fun _ => 0))]) ++ [(q9, cI cc 32 (fun _ => 0))]) ++ [(q10, cI cc 6 (fun _ => 0))]) ++ [(q11, cI cc 64 (fun _ => 0))])) H := hP
  have hD : va_D A ((h0, .inr (5, [.ref (u1.1 0), .ref q2, .ref q5, .ref (u6.1 0), .ref q7, .int 0, .ref q8, .ref q9, .ref q10, .null, .null, .null])) :: ((((((((((([] ++ wW shS 10 cc u1.1 u1.2) ++ [(q2, .inl (cc 3, 2, .inr (.inr (.inr (.inr (va_up (va_up (fun _ => none) 0 (some (u3.1 0))) 1 (some (u4.1 0))))))))]) ++ wW shS 10 cc u3.1 u3.2) ++ wW shS 10 cc u4.1 u4.2) ++ [(q5, cZ cc 2 (fun _ => 0))]) ++ wW shT 3 cc u6.1 u6.2) ++ [(q7, cI cc 20 (fun _ => 0))]) ++ [(q8, cI cc 32 (fun _ => 0))]) ++ [(q9, cI cc 32 (fun _ => 0))]) ++ [(q10, cI cc 6 (fun _ => 0))]) ++ [(q11, cI cc 64 (fun _ => 0))])) := hD
  refine W.widen (k := 40) (n := 1009) (Nat.le_of_ble_eq_true rfl) (Nat.le_of_ble_eq_true rfl) ?_
  refine va_putF (D := D) (ci := 5) (v := .ref q11) (ty := .array .int) (C := RX5) (T := TX5) (N := 12) hx hb hts hi_X5 tyX5 tyX5_ok nmX5 hown hK hP hD hS 0 rfl rfl 9 (by decide) hw24 (fun _ h9 => h9) rfl hin rfl (by decide +kernel) rfl rfl (Nat.le_of_ble_eq_true rfl) dX5_init_103 (fun H locs hP hD hS => ?_)
  have hP : va_P D vwCl ((h0, .inr (5, [.ref (u1.1 0), .ref q2, .ref q5, .ref (u6.1 0), .ref q7, .int 0, .ref q8, .ref q9, .ref q10, .ref q11, .null, .null])) :: ((((((((((([] ++ wW shS 10 cc u1.1 u1.2) ++ [(q2, .inl (cc 3, 2, .inr (.inr (.inr (.inr (va_up (va_up (fun _ => none) 0 (some (u3.1 0))) 1 (some (u4.1 0))))))))]) ++ wW shS 10 cc u3.1 u3.2) ++ wW shS 10 cc u4.1 u4.2) ++ [(q5, cZ cc 2 (fun _ => 0))]) ++ wW shT 3 cc u6.1 u6.2) ++ [(q7, cI cc 20 (fun _ => 0))]) ++ [(q8, cI cc 32 (fun _ => 0))]) ++ [(q9, cI cc 32 (fun _ => 0))]) ++ [(q10, cI cc 6 (fun _ => 0))]) ++ [(q11, cI cc 64 (fun _ => 0))])) H := hP
  have hD : va_D A ((h0, .inr (5, [.ref (u1.1 0), .ref q2, .ref q5, .ref (u6.1 0), .ref q7, .int 0, .ref q8, .ref q9, .ref q10, .ref q11, .null, .null])) :: ((((((((((([] ++ wW shS 10 cc u1.1 u1.2) ++ [(q2, .inl (cc 3, 2, .inr (.inr (.inr (.inr (va_up (va_up (fun _ => none) 0 (some (u3.1 0))) 1 (some (u4.1 0))))))))]) ++ wW shS 10 cc u3.1 u3.2) ++ wW shS 10 cc u4.1 u4.2) ++ [(q5, cZ cc 2 (fun _ => 0))]) ++ wW shT 3 cc u6.1 u6.2) ++ [(q7, cI cc 20 (fun _ => 0))]) ++ [(q8, cI cc 32 (fun _ => 0))]) ++ [(q9, cI cc 32 (fun _ => 0))]) ++ [(q10, cI cc 6 (fun _ => 0))]) ++ [(q11, cI cc 64 (fun _ => 0))])) := hD
  refine lv_aload_n hx hb dX5_init_106 rfl (lv_at hl 0 rfl) ?_
  refine va_new (ci := 0) (fs := [.int 0, .null, .null, .null, .null, .null, .null, .null, .int 0]) (C := RX0) (T := TX0) (N := 9) hx hb hts hi_X0 tyX0 tyX0_ok hown hw25 hw26 hw27 hK hP hD hS hA rfl (fun j hj => by rcases (show j = 0 ∨ j = 1 ∨ j = 2 ∨ j = 3 ∨ j = 4 ∨ j = 5 ∨ j = 6 ∨ j = 7 ∨ j = 8 by omega) with rfl | rfl | rfl | rfl | rfl | rfl | rfl | rfl | rfl <;> rfl) (Nat.le_of_ble_eq_true rfl) (Nat.le_of_ble_eq_true rfl) dX5_init_107 (fun q12 H hP hD hS => ?_)
  have hP : va_P D vwCl ((h0, .inr (5, [.ref (u1.1 0), .ref q2, .ref q5, .ref (u6.1 0), .ref q7, .int 0, .ref q8, .ref q9, .ref q10, .ref q11, .null, .null])) :: (((((((((((([] ++ wW shS 10 cc u1.1 u1.2) ++ [(q2, .inl (cc 3, 2, .inr (.inr (.inr (.inr (va_up (va_up (fun _ => none) 0 (some (u3.1 0))) 1 (some (u4.1 0))))))))]) ++ wW shS 10 cc u3.1 u3.2) ++ wW shS 10 cc u4.1 u4.2) ++ [(q5, cZ cc 2 (fun _ => 0))]) ++ wW shT 3 cc u6.1 u6.2) ++ [(q7, cI cc 20 (fun _ => 0))]) ++ [(q8, cI cc 32 (fun _ => 0))]) ++ [(q9, cI cc 32 (fun _ => 0))]) ++ [(q10, cI cc 6 (fun _ => 0))]) ++ [(q11, cI cc 64 (fun _ => 0))]) ++ [(q12, .inr (0, [.int 0, .null, .null, .null, .null, .null, .null, .null, .int 0]))])) H := hP
  have hD : va_D A ((h0, .inr (5, [.ref (u1.1 0), .ref q2, .ref q5, .ref (u6.1 0), .ref q7, .int 0, .ref q8, .ref q9, .ref q10, .ref q11, .null, .null])) :: (((((((((((([] ++ wW shS 10 cc u1.1 u1.2) ++ [(q2, .inl (cc 3, 2, .inr (.inr (.inr (.inr (va_up (va_up (fun _ => none) 0 (some (u3.1 0))) 1 (some (u4.1 0))))))))]) ++ wW shS 10 cc u3.1 u3.2) ++ wW shS 10 cc u4.1 u4.2) ++ [(q5, cZ cc 2 (fun _ => 0))]) ++ wW shT 3 cc u6.1 u6.2) ++ [(q7, cI cc 20 (fun _ => 0))]) ++ [(q8, cI cc 32 (fun _ => 0))]) ++ [(q9, cI cc 32 (fun _ => 0))]) ++ [(q10, cI cc 6 (fun _ => 0))]) ++ [(q11, cI cc 64 (fun _ => 0))]) ++ [(q12, .inr (0, [.int 0, .null, .null, .null, .null, .null, .null, .null, .int 0]))])) := hD
  refine W.widen (k := 41) (n := 1018) (Nat.le_of_ble_eq_true rfl) (Nat.le_of_ble_eq_true rfl) ?_
  refine lv_dup hx hb dX5_init_110 rfl ?_
  have hP : va_P D vwCl (((h0, .inr (5, [.ref (u1.1 0), .ref q2, .ref q5, .ref (u6.1 0), .ref q7, .int 0, .ref q8, .ref q9, .ref q10, .ref q11, .null, .null])) :: ((((((((((([] ++ wW shS 10 cc u1.1 u1.2) ++ [(q2, .inl (cc 3, 2, .inr (.inr (.inr (.inr (va_up (va_up (fun _ => none) 0 (some (u3.1 0))) 1 (some (u4.1 0))))))))]) ++ wW shS 10 cc u3.1 u3.2) ++ wW shS 10 cc u4.1 u4.2) ++ [(q5, cZ cc 2 (fun _ => 0))]) ++ wW shT 3 cc u6.1 u6.2) ++ [(q7, cI cc 20 (fun _ => 0))]) ++ [(q8, cI cc 32 (fun _ => 0))]) ++ [(q9, cI cc 32 (fun _ => 0))]) ++ [(q10, cI cc 6 (fun _ => 0))]) ++ [(q11, cI cc 64 (fun _ => 0))])) ++ [(q12, .inr (0, [.int 0, .null, .null, .null, .null, .null, .null, .null, .int 0]))]) H := hP
  have hD : va_D A (((h0, .inr (5, [.ref (u1.1 0), .ref q2, .ref q5, .ref (u6.1 0), .ref q7, .int 0, .ref q8, .ref q9, .ref q10, .ref q11, .null, .null])) :: ((((((((((([] ++ wW shS 10 cc u1.1 u1.2) ++ [(q2, .inl (cc 3, 2, .inr (.inr (.inr (.inr (va_up (va_up (fun _ => none) 0 (some (u3.1 0))) 1 (some (u4.1 0))))))))]) ++ wW shS 10 cc u3.1 u3.2) ++ wW shS 10 cc u4.1 u4.2) ++ [(q5, cZ cc 2 (fun _ => 0))]) ++ wW shT 3 cc u6.1 u6.2) ++ [(q7, cI cc 20 (fun _ => 0))]) ++ [(q8, cI cc 32 (fun _ => 0))]) ++ [(q9, cI cc 32 (fun _ => 0))]) ++ [(q10, cI cc 6 (fun _ => 0))]) ++ [(q11, cI cc 64 (fun _ => 0))])) ++ [(q12, .inr (0, [.int 0, .null, .null, .null, .null, .null, .null, .null, .int 0]))]) := hD
  have hPc := zn_tail hP
  have hDc := zn_tailD hD
  have hFc := zn_free hD hS hA
  refine va_callv (va_runIN (As := []) (rest := [.ref q12, .ref h0]) ⟨hx, hb, hml, hown, hts⟩ (c_X0_init l D cc q12 H.size) ⟨va_cnB (host := "FeatureClashes") 0 hts gX5_init_X0_init_n53 rfl rfl rfl (hNC.1 1 _ rfl) hw27 (by decide +kernel) ⟨Nat.le_of_ble_eq_true rfl, Nat.le_of_ble_eq_true rfl⟩, rfl, hw28⟩ ⟨NC_blind, fun U hU hW => ⟨rfl, by rw [hU], by rw [hU]; exact hPc, va_K.moved hW.alike hK, hDc.weaken (fun _ _ _ _ => trivial), hNC.warm hW⟩⟩ rfl rfl hl.1 rfl (lv_room (Nat.le_of_ble_eq_true rfl)) dX5_init_111 ⟨Nat.le_of_ble_eq_true rfl, Nat.le_of_ble_eq_true rfl⟩) hS (fun q _ h => hFc q h) hFc (fun u12 t H1 locs ht hvm hwu12 hB hz1 hk1 hS => ?_)
  obtain ⟨hP1, hK1, hD1⟩ := hB
  rw [ht] at hP1
  obtain ⟨hP, hD⟩ := zn_app (w1 := wW shD 8 cc u12.1 u12.2) hP hD hk1 hFc hP1 hD1
  generalize H1 = H at hP hS ⊢
  have hP : va_P D vwCl ((h0, .inr (5, [.ref (u1.1 0), .ref q2, .ref q5, .ref (u6.1 0), .ref q7, .int 0, .ref q8, .ref q9, .ref q10, .ref q11, .null, .null])) :: (((((((((((([] ++ wW shS 10 cc u1.1 u1.2) ++ [(q2, .inl (cc 3, 2, .inr (.inr (.inr (.inr (va_up (va_up (fun _ => none) 0 (some (u3.1 0))) 1 (some (u4.1 0))))))))]) ++ wW shS 10 cc u3.1 u3.2) ++ wW shS 10 cc u4.1 u4.2) ++ [(q5, cZ cc 2 (fun _ => 0))]) ++ wW shT 3 cc u6.1 u6.2) ++ [(q7, cI cc 20 (fun _ => 0))]) ++ [(q8, cI cc 32 (fun _ => 0))]) ++ [(q9, cI cc 32 (fun _ => 0))]) ++ [(q10, cI cc 6 (fun _ => 0))]) ++ [(q11, cI cc 64 (fun _ => 0))]) ++ wW shD 8 cc u12.1 u12.2)) H := hP
  have hD : va_D A ((h0, .inr (5, [.ref (u1.1 0), .ref q2, .ref q5, .ref (u6.1 0), .ref q7, .int 0, .ref q8, .ref q9, .ref q10, .ref q11, .null, .null])) :: (((((((((((([] ++ wW shS 10 cc u1.1 u1.2) ++ [(q2, .inl (cc 3, 2, .inr (.inr (.inr (.inr (va_up (va_up (fun _ => none) 0 (some (u3.1 0))) 1 (some (u4.1 0))))))))]) ++ wW shS 10 cc u3.1 u3.2) ++ wW shS 10 cc u4.1 u4.2) ++ [(q5, cZ cc 2 (fun _ => 0))]) ++ wW shT 3 cc u6.1 u6.2) ++ [(q7, cI cc 20 (fun _ => 0))]) ++ [(q8, cI cc 32 (fun _ => 0))]) ++ [(q9, cI cc 32 (fun _ => 0))]) ++ [(q10, cI cc 6 (fun _ => 0))]) ++ [(q11, cI cc 64 (fun _ => 0))]) ++ wW shD 8 cc u12.1 u12.2)) := hD
  refine W.widen (k := 48) (n := 1466) (Nat.le_of_ble_eq_true rfl) (Nat.le_of_ble_eq_true rfl) ?_
  have ezu12 : q12 = u12.1 0 := hwu12.1.symm
  rw [ezu12]
  refine va_putF (D := D) (ci := 5) (v := .ref (u12.1 0)) (ty := .object "FeatureClashes$Difference") (C := RX5) (T := TX5) (N := 12) hx hb hts hi_X5 tyX5 tyX5_ok nmX5 hown hK hP hD hS 0 rfl rfl 10 (by decide) hw29 (fun _ h9 => h9) rfl hin rfl (by decide +kernel) rfl rfl (Nat.le_of_ble_eq_true rfl) dX5_init_114 (fun H locs hP hD hS => ?_)
  have hP : va_P D vwCl ((h0, .inr (5, [.ref (u1.1 0), .ref q2, .ref q5, .ref (u6.1 0), .ref q7, .int 0, .ref q8, .ref q9, .ref q10, .ref q11, .ref (u12.1 0), .null])) :: (((((((((((([] ++ wW shS 10 cc u1.1 u1.2) ++ [(q2, .inl (cc 3, 2, .inr (.inr (.inr (.inr (va_up (va_up (fun _ => none) 0 (some (u3.1 0))) 1 (some (u4.1 0))))))))]) ++ wW shS 10 cc u3.1 u3.2) ++ wW shS 10 cc u4.1 u4.2) ++ [(q5, cZ cc 2 (fun _ => 0))]) ++ wW shT 3 cc u6.1 u6.2) ++ [(q7, cI cc 20 (fun _ => 0))]) ++ [(q8, cI cc 32 (fun _ => 0))]) ++ [(q9, cI cc 32 (fun _ => 0))]) ++ [(q10, cI cc 6 (fun _ => 0))]) ++ [(q11, cI cc 64 (fun _ => 0))]) ++ wW shD 8 cc u12.1 u12.2)) H := hP
  have hD : va_D A ((h0, .inr (5, [.ref (u1.1 0), .ref q2, .ref q5, .ref (u6.1 0), .ref q7, .int 0, .ref q8, .ref q9, .ref q10, .ref q11, .ref (u12.1 0), .null])) :: (((((((((((([] ++ wW shS 10 cc u1.1 u1.2) ++ [(q2, .inl (cc 3, 2, .inr (.inr (.inr (.inr (va_up (va_up (fun _ => none) 0 (some (u3.1 0))) 1 (some (u4.1 0))))))))]) ++ wW shS 10 cc u3.1 u3.2) ++ wW shS 10 cc u4.1 u4.2) ++ [(q5, cZ cc 2 (fun _ => 0))]) ++ wW shT 3 cc u6.1 u6.2) ++ [(q7, cI cc 20 (fun _ => 0))]) ++ [(q8, cI cc 32 (fun _ => 0))]) ++ [(q9, cI cc 32 (fun _ => 0))]) ++ [(q10, cI cc 6 (fun _ => 0))]) ++ [(q11, cI cc 64 (fun _ => 0))]) ++ wW shD 8 cc u12.1 u12.2)) := hD
  refine lv_aload_n hx hb dX5_init_117 rfl (lv_at hl 0 rfl) ?_
  refine va_new (ci := 1) (fs := [.null, .null, .int 0, .int 0, .null, .null, .null]) (C := RX1) (T := TX1) (N := 7) hx hb hts hi_X1 tyX1 tyX1_ok hown hw30 hw31 hw32 hK hP hD hS hA rfl (fun j hj => by rcases (show j = 0 ∨ j = 1 ∨ j = 2 ∨ j = 3 ∨ j = 4 ∨ j = 5 ∨ j = 6 by omega) with rfl | rfl | rfl | rfl | rfl | rfl | rfl <;> rfl) (Nat.le_of_ble_eq_true rfl) (Nat.le_of_ble_eq_true rfl) dX5_init_118 (fun q13 H hP hD hS => ?_)
  have hP : va_P D vwCl ((h0, .inr (5, [.ref (u1.1 0), .ref q2, .ref q5, .ref (u6.1 0), .ref q7, .int 0, .ref q8, .ref q9, .ref q10, .ref q11, .ref (u12.1 0), .null])) :: ((((((((((((([] ++ wW shS 10 cc u1.1 u1.2) ++ [(q2, .inl (cc 3, 2, .inr (.inr (.inr (.inr (va_up (va_up (fun _ => none) 0 (some (u3.1 0))) 1 (some (u4.1 0))))))))]) ++ wW shS 10 cc u3.1 u3.2) ++ wW shS 10 cc u4.1 u4.2) ++ [(q5, cZ cc 2 (fun _ => 0))]) ++ wW shT 3 cc u6.1 u6.2) ++ [(q7, cI cc 20 (fun _ => 0))]) ++ [(q8, cI cc 32 (fun _ => 0))]) ++ [(q9, cI cc 32 (fun _ => 0))]) ++ [(q10, cI cc 6 (fun _ => 0))]) ++ [(q11, cI cc 64 (fun _ => 0))]) ++ wW shD 8 cc u12.1 u12.2) ++ [(q13, .inr (1, [.null, .null, .int 0, .int 0, .null, .null, .null]))])) H := hP
  have hD : va_D A ((h0, .inr (5, [.ref (u1.1 0), .ref q2, .ref q5, .ref (u6.1 0), .ref q7, .int 0, .ref q8, .ref q9, .ref q10, .ref q11, .ref (u12.1 0), .null])) :: ((((((((((((([] ++ wW shS 10 cc u1.1 u1.2) ++ [(q2, .inl (cc 3, 2, .inr (.inr (.inr (.inr (va_up (va_up (fun _ => none) 0 (some (u3.1 0))) 1 (some (u4.1 0))))))))]) ++ wW shS 10 cc u3.1 u3.2) ++ wW shS 10 cc u4.1 u4.2) ++ [(q5, cZ cc 2 (fun _ => 0))]) ++ wW shT 3 cc u6.1 u6.2) ++ [(q7, cI cc 20 (fun _ => 0))]) ++ [(q8, cI cc 32 (fun _ => 0))]) ++ [(q9, cI cc 32 (fun _ => 0))]) ++ [(q10, cI cc 6 (fun _ => 0))]) ++ [(q11, cI cc 64 (fun _ => 0))]) ++ wW shD 8 cc u12.1 u12.2) ++ [(q13, .inr (1, [.null, .null, .int 0, .int 0, .null, .null, .null]))])) := hD
  refine W.widen (k := 49) (n := 1473) (Nat.le_of_ble_eq_true rfl) (Nat.le_of_ble_eq_true rfl) ?_
  refine lv_dup hx hb dX5_init_121 rfl ?_
  have hP : va_P D vwCl (((h0, .inr (5, [.ref (u1.1 0), .ref q2, .ref q5, .ref (u6.1 0), .ref q7, .int 0, .ref q8, .ref q9, .ref q10, .ref q11, .ref (u12.1 0), .null])) :: (((((((((((([] ++ wW shS 10 cc u1.1 u1.2) ++ [(q2, .inl (cc 3, 2, .inr (.inr (.inr (.inr (va_up (va_up (fun _ => none) 0 (some (u3.1 0))) 1 (some (u4.1 0))))))))]) ++ wW shS 10 cc u3.1 u3.2) ++ wW shS 10 cc u4.1 u4.2) ++ [(q5, cZ cc 2 (fun _ => 0))]) ++ wW shT 3 cc u6.1 u6.2) ++ [(q7, cI cc 20 (fun _ => 0))]) ++ [(q8, cI cc 32 (fun _ => 0))]) ++ [(q9, cI cc 32 (fun _ => 0))]) ++ [(q10, cI cc 6 (fun _ => 0))]) ++ [(q11, cI cc 64 (fun _ => 0))]) ++ wW shD 8 cc u12.1 u12.2)) ++ [(q13, .inr (1, [.null, .null, .int 0, .int 0, .null, .null, .null]))]) H := hP
  have hD : va_D A (((h0, .inr (5, [.ref (u1.1 0), .ref q2, .ref q5, .ref (u6.1 0), .ref q7, .int 0, .ref q8, .ref q9, .ref q10, .ref q11, .ref (u12.1 0), .null])) :: (((((((((((([] ++ wW shS 10 cc u1.1 u1.2) ++ [(q2, .inl (cc 3, 2, .inr (.inr (.inr (.inr (va_up (va_up (fun _ => none) 0 (some (u3.1 0))) 1 (some (u4.1 0))))))))]) ++ wW shS 10 cc u3.1 u3.2) ++ wW shS 10 cc u4.1 u4.2) ++ [(q5, cZ cc 2 (fun _ => 0))]) ++ wW shT 3 cc u6.1 u6.2) ++ [(q7, cI cc 20 (fun _ => 0))]) ++ [(q8, cI cc 32 (fun _ => 0))]) ++ [(q9, cI cc 32 (fun _ => 0))]) ++ [(q10, cI cc 6 (fun _ => 0))]) ++ [(q11, cI cc 64 (fun _ => 0))]) ++ wW shD 8 cc u12.1 u12.2)) ++ [(q13, .inr (1, [.null, .null, .int 0, .int 0, .null, .null, .null]))]) := hD
  have hPc := zn_tail hP
  have hDc := zn_tailD hD
  have hFc := zn_free hD hS hA
  refine va_callv (va_runIN (As := []) (rest := [.ref q13, .ref h0]) ⟨hx, hb, hml, hown, hts⟩ (c_X1_init l D cc q13 H.size) ⟨va_cnB (host := "FeatureClashes") 0 hts gX5_init_X1_init_n60 rfl rfl rfl (hNC.1 2 _ rfl) hw32 (by decide +kernel) ⟨Nat.le_of_ble_eq_true rfl, Nat.le_of_ble_eq_true rfl⟩, rfl, hw33⟩ ⟨NC_blind, fun U hU hW => ⟨rfl, by rw [hU], by rw [hU]; exact hPc, va_K.moved hW.alike hK, hDc.weaken (fun _ _ _ _ => trivial), hNC.warm hW⟩⟩ rfl rfl hl.1 rfl (lv_room (Nat.le_of_ble_eq_true rfl)) dX5_init_122 ⟨Nat.le_of_ble_eq_true rfl, Nat.le_of_ble_eq_true rfl⟩) hS (fun q _ h => hFc q h) hFc (fun u13 t H1 locs ht hvm hwu13 hB hz1 hk1 hS => ?_)
  obtain ⟨hP1, hK1, hD1⟩ := hB
  rw [ht] at hP1
  obtain ⟨hP, hD⟩ := zn_app (w1 := wW shO 18 cc u13.1 u13.2) hP hD hk1 hFc hP1 hD1
  generalize H1 = H at hP hS ⊢
  have hP : va_P D vwCl ((h0, .inr (5, [.ref (u1.1 0), .ref q2, .ref q5, .ref (u6.1 0), .ref q7, .int 0, .ref q8, .ref q9, .ref q10, .ref q11, .ref (u12.1 0), .null])) :: ((((((((((((([] ++ wW shS 10 cc u1.1 u1.2) ++ [(q2, .inl (cc 3, 2, .inr (.inr (.inr (.inr (va_up (va_up (fun _ => none) 0 (some (u3.1 0))) 1 (some (u4.1 0))))))))]) ++ wW shS 10 cc u3.1 u3.2) ++ wW shS 10 cc u4.1 u4.2) ++ [(q5, cZ cc 2 (fun _ => 0))]) ++ wW shT 3 cc u6.1 u6.2) ++ [(q7, cI cc 20 (fun _ => 0))]) ++ [(q8, cI cc 32 (fun _ => 0))]) ++ [(q9, cI cc 32 (fun _ => 0))]) ++ [(q10, cI cc 6 (fun _ => 0))]) ++ [(q11, cI cc 64 (fun _ => 0))]) ++ wW shD 8 cc u12.1 u12.2) ++ wW shO 18 cc u13.1 u13.2)) H := hP
  have hD : va_D A ((h0, .inr (5, [.ref (u1.1 0), .ref q2, .ref q5, .ref (u6.1 0), .ref q7, .int 0, .ref q8, .ref q9, .ref q10, .ref q11, .ref (u12.1 0), .null])) :: ((((((((((((([] ++ wW shS 10 cc u1.1 u1.2) ++ [(q2, .inl (cc 3, 2, .inr (.inr (.inr (.inr (va_up (va_up (fun _ => none) 0 (some (u3.1 0))) 1 (some (u4.1 0))))))))]) ++ wW shS 10 cc u3.1 u3.2) ++ wW shS 10 cc u4.1 u4.2) ++ [(q5, cZ cc 2 (fun _ => 0))]) ++ wW shT 3 cc u6.1 u6.2) ++ [(q7, cI cc 20 (fun _ => 0))]) ++ [(q8, cI cc 32 (fun _ => 0))]) ++ [(q9, cI cc 32 (fun _ => 0))]) ++ [(q10, cI cc 6 (fun _ => 0))]) ++ [(q11, cI cc 64 (fun _ => 0))]) ++ wW shD 8 cc u12.1 u12.2) ++ wW shO 18 cc u13.1 u13.2)) := hD
  refine W.widen (k := 66) (n := 4638) (Nat.le_of_ble_eq_true rfl) (Nat.le_of_ble_eq_true rfl) ?_
  have ezu13 : q13 = u13.1 0 := hwu13.1.symm
  rw [ezu13]
  refine va_putF (D := D) (ci := 5) (v := .ref (u13.1 0)) (ty := .object "FeatureClashes$Outcomes") (C := RX5) (T := TX5) (N := 12) hx hb hts hi_X5 tyX5 tyX5_ok nmX5 hown hK hP hD hS 0 rfl rfl 11 (by decide) hw34 (fun _ h9 => h9) rfl hin rfl (by decide +kernel) rfl rfl (Nat.le_of_ble_eq_true rfl) dX5_init_125 (fun H locs hP hD hS => ?_)
  have hP : va_P D vwCl ((h0, .inr (5, [.ref (u1.1 0), .ref q2, .ref q5, .ref (u6.1 0), .ref q7, .int 0, .ref q8, .ref q9, .ref q10, .ref q11, .ref (u12.1 0), .ref (u13.1 0)])) :: ((((((((((((([] ++ wW shS 10 cc u1.1 u1.2) ++ [(q2, .inl (cc 3, 2, .inr (.inr (.inr (.inr (va_up (va_up (fun _ => none) 0 (some (u3.1 0))) 1 (some (u4.1 0))))))))]) ++ wW shS 10 cc u3.1 u3.2) ++ wW shS 10 cc u4.1 u4.2) ++ [(q5, cZ cc 2 (fun _ => 0))]) ++ wW shT 3 cc u6.1 u6.2) ++ [(q7, cI cc 20 (fun _ => 0))]) ++ [(q8, cI cc 32 (fun _ => 0))]) ++ [(q9, cI cc 32 (fun _ => 0))]) ++ [(q10, cI cc 6 (fun _ => 0))]) ++ [(q11, cI cc 64 (fun _ => 0))]) ++ wW shD 8 cc u12.1 u12.2) ++ wW shO 18 cc u13.1 u13.2)) H := hP
  have hD : va_D A ((h0, .inr (5, [.ref (u1.1 0), .ref q2, .ref q5, .ref (u6.1 0), .ref q7, .int 0, .ref q8, .ref q9, .ref q10, .ref q11, .ref (u12.1 0), .ref (u13.1 0)])) :: ((((((((((((([] ++ wW shS 10 cc u1.1 u1.2) ++ [(q2, .inl (cc 3, 2, .inr (.inr (.inr (.inr (va_up (va_up (fun _ => none) 0 (some (u3.1 0))) 1 (some (u4.1 0))))))))]) ++ wW shS 10 cc u3.1 u3.2) ++ wW shS 10 cc u4.1 u4.2) ++ [(q5, cZ cc 2 (fun _ => 0))]) ++ wW shT 3 cc u6.1 u6.2) ++ [(q7, cI cc 20 (fun _ => 0))]) ++ [(q8, cI cc 32 (fun _ => 0))]) ++ [(q9, cI cc 32 (fun _ => 0))]) ++ [(q10, cI cc 6 (fun _ => 0))]) ++ [(q11, cI cc 64 (fun _ => 0))]) ++ wW shD 8 cc u12.1 u12.2) ++ wW shO 18 cc u13.1 u13.2)) := hD
  obtain ⟨a1, m1⟩ := u1
  obtain ⟨-, hm1⟩ := hwu1
  obtain ⟨a2, m2⟩ := u3
  obtain ⟨-, hm2⟩ := hwu3
  obtain ⟨a3, m3⟩ := u4
  obtain ⟨-, hm3⟩ := hwu4
  obtain ⟨a4, m4⟩ := u6
  obtain ⟨-, hm4⟩ := hwu6
  obtain ⟨a5, m5⟩ := u12
  obtain ⟨-, hm5⟩ := hwu12
  obtain ⟨a6, m6⟩ := u13
  obtain ⟨-, hm6⟩ := hwu13
  dsimp only at hm1 hm2 hm3 hm4 hm5 hm6 hP hD ⊢
  subst hm4
  subst hm5
  subst hm6
  rw [blkX] at hP hD
  exact W.vret hx hb hr (fun t ht hW => ⟨⟨((adX h0 a1 q2 a2 a3 q5 a4 q7 q8 q9 q10 q11 a5 a6), memX m1 m2 m3), rfl, ⟨rfl, m1, m2, m3, hm1, hm2, hm3, rfl⟩, by rw [ht]; exact hP, va_K.moved hW.alike hK, hD⟩, hS.F ht⟩) hS.2.2 dX5_init_128

set_option maxHeartbeats 4000000 in
set_option maxRecDepth 100000 in
theorem c_X6_init (l : Launch) (D : va_G) (cc : Nat → ClassId) (h0 sz : Nat) (PM : Mem → Prop) (hPM : f_X6_anew 2 2 zeroM PM) : Met l yX6_init wsX6_init ({ frames := 1, cells := 17, slots := 24379, locals := 24 }) (va_Pc [.ref h0] (NCP D cc sz [(h0, .inr (6, [.null, .null, .null, .null, .int 0, .null, .int 0, .int 0, .null, .int 0, .null, .null, .null, .null, .null, .null, .null, .null, .int 0, .null, .null, .null]))])) (va_Qv (fun u : (Nat → Nat) × Mem => u.1 0 = h0 ∧ PM u.2) (fun u t => va_P D vwCl (wW shM 18 cc u.1 u.2) t.heap ∧ va_K D vwCl (tyL cc) t ∧ va_D (va_A [(h0, .inr (6, [.null, .null, .null, .null, .int 0, .null, .int 0, .int 0, .null, .int 0, .null, .null, .null, .null, .null, .null, .null, .null, .int 0, .null, .null, .null]))] sz) (wW shM 18 cc u.1 u.2)) (va_A [(h0, .inr (6, [.null, .null, .null, .null, .int 0, .null, .int 0, .int 0, .null, .int 0, .null, .null, .null, .null, .null, .null, .null, .null, .int 0, .null, .null, .null]))] sz)) 17 24379 (va_A [(h0, .inr (6, [.null, .null, .null, .null, .int 0, .null, .int 0, .int 0, .null, .int 0, .null, .null, .null, .null, .null, .null, .null, .null, .int 0, .null, .null, .null]))] sz) := by
  refine Met.ofW (cc := cX6_init) (maxL := 1) (ret := none) (by decide) rfl ?_
  intro p e s m args below meth c s₁ BB hml hv
  obtain ⟨rfl, hsz, hP, hK, hD0, hNC⟩ := hv
  have hx := BB.exec
  have hb := BB.bytes
  have hr := BB.returns
  have hts := atoms_spec (ws := wsX6_init) BB.pre
  have hown : s.vm.findClass RX6 = some m.cls := findClass_of_methodNamed BB.named
  have hlocks := BB.notSynchronized
  have hin : meth.name = "<init>" := (name_of_methodNamed BB.named BB.method).1
  have hi_X6 : ∀ w ∈ u_ws RX6 TX6 22, w ∈ wsX6_init := by decide +kernel
  have hw0 := hts (.methodLink RX6 1 objectInit) (by decide +kernel)
  have hw1 := hts (.instanceMethod objectInit) (by decide +kernel)
  have hw2 := hts (.code objectInit ⟨#[0xb1]⟩ 1 none) (by decide +kernel)
  have hw3 := hts (.arrayClass .int) (by decide +kernel)
  have hw4 := hts (.fieldLink RX6 7 "FeatureClashesModel" "v" "[I") (by decide +kernel)
  have hw5 := hts (.fieldLink RX6 13 "FeatureClashesModel" "kept" "[I") (by decide +kernel)
  have hw6 := hts (.arrayClass .boolean) (by decide +kernel)
  have hw7 := hts (.fieldLink RX6 16 "FeatureClashesModel" "isKept" "[Z") (by decide +kernel)
  have hw8 := hts (.fieldLink RX6 20 "FeatureClashesModel" "word" "[I") (by decide +kernel)
  have hw9 := hts (.fieldLink RX6 23 "FeatureClashesModel" "text" "[I") (by decide +kernel)
  have hw10 := hts (.fieldLink RX6 26 "FeatureClashesModel" "told" "[I") (by decide +kernel)
  have hw11 := hts (.fieldLink RX6 29 "FeatureClashesModel" "one" "[I") (by decide +kernel)
  have hw12 := hts (.fieldLink RX6 32 "FeatureClashesModel" "other" "[I") (by decide +kernel)
  have hw13 := hts (.fieldLink RX6 35 "FeatureClashesModel" "pairs" "[I") (by decide +kernel)
  have hw14 := hts (.fieldLink RX6 38 "FeatureClashesModel" "from" "[I") (by decide +kernel)
  have hw15 := hts (.fieldLink RX6 41 "FeatureClashesModel" "by" "[I") (by decide +kernel)
  have hw16 := hts (.fieldLink RX6 44 "FeatureClashesModel" "isMet" "[Z") (by decide +kernel)
  have hw17 := hts (.fieldLink RX6 47 "FeatureClashesModel" "apart" "[I") (by decide +kernel)
  have hw18 := hts (.fieldLink RX6 50 "FeatureClashesModel" "those" "[I") (by decide +kernel)
  have hw19 := hts (.fieldLink RX6 53 "FeatureClashesModel" "order" "[I") (by decide +kernel)
  have hw20 := hts (.fieldLink RX6 56 "FeatureClashesModel" "machines" "[I") (by decide +kernel)
  have hw21 := hts (.fieldLink RX6 59 "FeatureClashesModel" "behind" "[I") (by decide +kernel)
  subst hsz
  have hD := hD0.self (sz := s.heap.size)
  generalize hAe : va_A [(h0, .inr (6, [.null, .null, .null, .null, .int 0, .null, .int 0, .int 0, .null, .int 0, .null, .null, .null, .null, .null, .null, .null, .null, .int 0, .null, .null, .null]))] s.heap.size = A at hD ⊢
  have hA : ∀ q : Nat, s.heap.size ≤ q → A q := fun q h => by rw [← hAe]; exact Or.inr h
  have hS : va_S A s.heap s.heap [] := va_S.rf
  have hP : va_P D vwCl [(h0, .inr (6, [.null, .null, .null, .null, .int 0, .null, .int 0, .int 0, .null, .int 0, .null, .null, .null, .null, .null, .null, .null, .null, .int 0, .null, .null, .null]))] s.heap := hP
  have hl := lv_entry ([.ref h0]) (n := 1) (Nat.le_of_ble_eq_true rfl)
  rw [lg_entry_eq]
  generalize (lg_sl ([.ref h0]) ++ List.replicate (1 - (lg_sl ([.ref h0])).length) Slot.unset).toArray = ls at hl ⊢
  have hl : lv_has ls 1 [(0, .ref h0)] := hl
  refine lv_aload_n hx hb dX6_init_0 rfl (lv_at hl 0 rfl) ?_
  refine W.objInit hx hb hown hw0 hw1 hw2 rfl (by rw [hml]; exact hl.1) rfl dX6_init_1 (Nat.le_of_ble_eq_true rfl) (Nat.le_of_ble_eq_true rfl) ?_
  refine W.eq (g2 := F0 m 4 ls []) rfl ?_
  refine lv_aload_n hx hb dX6_init_4 rfl (lv_at hl 0 rfl) ?_
  refine lv_sipush (v := 239) hx hb dX6_init_5 (by decide) ?_
  refine zn_newi (N' := 239) hx hb hw3 hK hP hD hS hA (by decide) (by decide) (Nat.le_of_ble_eq_true rfl) (Nat.le_of_ble_eq_true rfl) (Nat.le_of_ble_eq_true rfl) dX6_init_8 (fun q1 H hP hD hS => ?_)
  have hP : va_P D vwCl ((h0, .inr (6, [.null, .null, .null, .null, .int 0, .null, .int 0, .int 0, .null, .int 0, .null, .null, .null, .null, .null, .null, .null, .null, .int 0, .null, .null, .null])) :: ([] ++ [(q1, cI cc 239 (fun _ => 0))])) H := hP
  have hD : va_D A ((h0, .inr (6, [.null, .null, .null, .null, .int 0, .null, .int 0, .int 0, .null, .int 0, .null, .null, .null, .null, .null, .null, .null, .null, .int 0, .null, .null, .null])) :: ([] ++ [(q1, cI cc 239 (fun _ => 0))])) := hD
  refine W.widen (k := 1) (n := 239) (Nat.le_of_ble_eq_true rfl) (Nat.le_of_ble_eq_true rfl) ?_
  refine va_putF (D := D) (ci := 6) (v := .ref q1) (ty := .array .int) (C := RX6) (T := TX6) (N := 22) hx hb hts hi_X6 tyX6 tyX6_ok nmX6 hown hK hP hD hS 0 rfl rfl 0 (by decide) hw4 (fun _ h9 => h9) rfl hin rfl (by decide +kernel) rfl rfl (Nat.le_of_ble_eq_true rfl) dX6_init_10 (fun H locs hP hD hS => ?_)
  have hP : va_P D vwCl ((h0, .inr (6, [.ref q1, .null, .null, .null, .int 0, .null, .int 0, .int 0, .null, .int 0, .null, .null, .null, .null, .null, .null, .null, .null, .int 0, .null, .null, .null])) :: ([] ++ [(q1, cI cc 239 (fun _ => 0))])) H := hP
  have hD : va_D A ((h0, .inr (6, [.ref q1, .null, .null, .null, .int 0, .null, .int 0, .int 0, .null, .int 0, .null, .null, .null, .null, .null, .null, .null, .null, .int 0, .null, .null, .null])) :: ([] ++ [(q1, cI cc 239 (fun _ => 0))])) := hD
  refine lv_aload_n hx hb dX6_init_13 rfl (lv_at hl 0 rfl) ?_
  refine lv_sipush (v := 478) hx hb dX6_init_14 (by decide) ?_
  refine zn_newi (N' := 478) hx hb hw3 hK hP hD hS hA (by decide) (by decide) (Nat.le_of_ble_eq_true rfl) (Nat.le_of_ble_eq_true rfl) (Nat.le_of_ble_eq_true rfl) dX6_init_17 (fun q2 H hP hD hS => ?_)
  have hP : va_P D vwCl ((h0, .inr (6, [.ref q1, .null, .null, .null, .int 0, .null, .int 0, .int 0, .null, .int 0, .null, .null, .null, .null, .null, .null, .null, .null, .int 0, .null, .null, .null])) :: (([] ++ [(q1, cI cc 239 (fun _ => 0))]) ++ [(q2, cI cc 478 (fun _ => 0))])) H := hP
  have hD : va_D A ((h0, .inr (6, [.ref q1, .null, .null, .null, .int 0, .null, .int 0, .int 0, .null, .int 0, .null, .null, .null, .null, .null, .null, .null, .null, .int 0, .null, .null, .null])) :: (([] ++ [(q1, cI cc 239 (fun _ => 0))]) ++ [(q2, cI cc 478 (fun _ => 0))])) := hD
  refine W.widen (k := 2) (n := 717) (Nat.le_of_ble_eq_true rfl) (Nat.le_of_ble_eq_true rfl) ?_
  refine va_putF (D := D) (ci := 6) (v := .ref q2) (ty := .array .int) (C := RX6) (T := TX6) (N := 22) hx hb hts hi_X6 tyX6 tyX6_ok nmX6 hown hK hP hD hS 0 rfl rfl 1 (by decide) hw5 (fun _ h9 => h9) rfl hin rfl (by decide +kernel) rfl rfl (Nat.le_of_ble_eq_true rfl) dX6_init_19 (fun H locs hP hD hS => ?_)
  have hP : va_P D vwCl ((h0, .inr (6, [.ref q1, .ref q2, .null, .null, .int 0, .null, .int 0, .int 0, .null, .int 0, .null, .null, .null, .null, .null, .null, .null, .null, .int 0, .null, .null, .null])) :: (([] ++ [(q1, cI cc 239 (fun _ => 0))]) ++ [(q2, cI cc 478 (fun _ => 0))])) H := hP
  have hD : va_D A ((h0, .inr (6, [.ref q1, .ref q2, .null, .null, .int 0, .null, .int 0, .int 0, .null, .int 0, .null, .null, .null, .null, .null, .null, .null, .null, .int 0, .null, .null, .null])) :: (([] ++ [(q1, cI cc 239 (fun _ => 0))]) ++ [(q2, cI cc 478 (fun _ => 0))])) := hD
  refine lv_aload_n hx hb dX6_init_22 rfl (lv_at hl 0 rfl) ?_
  refine lv_iconst (v := 2) hx hb dX6_init_23 (by decide) ?_
  refine zn_newz (N' := 2) hx hb hw6 hK hP hD hS hA (by decide) (by decide) (Nat.le_of_ble_eq_true rfl) (Nat.le_of_ble_eq_true rfl) (Nat.le_of_ble_eq_true rfl) dX6_init_24 (fun q3 H hP hD hS => ?_)
  have hP : va_P D vwCl ((h0, .inr (6, [.ref q1, .ref q2, .null, .null, .int 0, .null, .int 0, .int 0, .null, .int 0, .null, .null, .null, .null, .null, .null, .null, .null, .int 0, .null, .null, .null])) :: ((([] ++ [(q1, cI cc 239 (fun _ => 0))]) ++ [(q2, cI cc 478 (fun _ => 0))]) ++ [(q3, cZ cc 2 (fun _ => 0))])) H := hP
  have hD : va_D A ((h0, .inr (6, [.ref q1, .ref q2, .null, .null, .int 0, .null, .int 0, .int 0, .null, .int 0, .null, .null, .null, .null, .null, .null, .null, .null, .int 0, .null, .null, .null])) :: ((([] ++ [(q1, cI cc 239 (fun _ => 0))]) ++ [(q2, cI cc 478 (fun _ => 0))]) ++ [(q3, cZ cc 2 (fun _ => 0))])) := hD
  refine W.widen (k := 3) (n := 719) (Nat.le_of_ble_eq_true rfl) (Nat.le_of_ble_eq_true rfl) ?_
  refine va_putF (D := D) (ci := 6) (v := .ref q3) (ty := .array .boolean) (C := RX6) (T := TX6) (N := 22) hx hb hts hi_X6 tyX6 tyX6_ok nmX6 hown hK hP hD hS 0 rfl rfl 2 (by decide) hw7 (fun _ h9 => h9) rfl hin rfl (by decide +kernel) rfl rfl (Nat.le_of_ble_eq_true rfl) dX6_init_26 (fun H locs hP hD hS => ?_)
  have hP : va_P D vwCl ((h0, .inr (6, [.ref q1, .ref q2, .ref q3, .null, .int 0, .null, .int 0, .int 0, .null, .int 0, .null, .null, .null, .null, .null, .null, .null, .null, .int 0, .null, .null, .null])) :: ((([] ++ [(q1, cI cc 239 (fun _ => 0))]) ++ [(q2, cI cc 478 (fun _ => 0))]) ++ [(q3, cZ cc 2 (fun _ => 0))])) H := hP
  have hD : va_D A ((h0, .inr (6, [.ref q1, .ref q2, .ref q3, .null, .int 0, .null, .int 0, .int 0, .null, .int 0, .null, .null, .null, .null, .null, .null, .null, .null, .int 0, .null, .null, .null])) :: ((([] ++ [(q1, cI cc 239 (fun _ => 0))]) ++ [(q2, cI cc 478 (fun _ => 0))]) ++ [(q3, cZ cc 2 (fun _ => 0))])) := hD
  refine lv_aload_n hx hb dX6_init_29 rfl (lv_at hl 0 rfl) ?_
  refine lv_bipush (v := 20) hx hb dX6_init_30 (by decide) ?_
  refine zn_newi (N' := 20) hx hb hw3 hK hP hD hS hA (by decide) (by decide) (Nat.le_of_ble_eq_true rfl) (Nat.le_of_ble_eq_true rfl) (Nat.le_of_ble_eq_true rfl) dX6_init_32 (fun q4 H hP hD hS => ?_)
  have hP : va_P D vwCl ((h0, .inr (6, [.ref q1, .ref q2, .ref q3, .null, .int 0, .null, .int 0, .int 0, .null, .int 0, .null, .null, .null, .null, .null, .null, .null, .null, .int 0, .null, .null, .null])) :: (((([] ++ [(q1, cI cc 239 (fun _ => 0))]) ++ [(q2, cI cc 478 (fun _ => 0))]) ++ [(q3, cZ cc 2 (fun _ => 0))]) ++ [(q4, cI cc 20 (fun _ => 0))])) H := hP
  have hD : va_D A ((h0, .inr (6, [.ref q1, .ref q2, .ref q3, .null, .int 0, .null, .int 0, .int 0, .null, .int 0, .null, .null, .null, .null, .null, .null, .null, .null, .int 0, .null, .null, .null])) :: (((([] ++ [(q1, cI cc 239 (fun _ => 0))]) ++ [(q2, cI cc 478 (fun _ => 0))]) ++ [(q3, cZ cc 2 (fun _ => 0))]) ++ [(q4, cI cc 20 (fun _ => 0))])) := hD
  refine W.widen (k := 4) (n := 739) (Nat.le_of_ble_eq_true rfl) (Nat.le_of_ble_eq_true rfl) ?_
  refine va_putF (D := D) (ci := 6) (v := .ref q4) (ty := .array .int) (C := RX6) (T := TX6) (N := 22) hx hb hts hi_X6 tyX6 tyX6_ok nmX6 hown hK hP hD hS 0 rfl rfl 3 (by decide) hw8 (fun _ h9 => h9) rfl hin rfl (by decide +kernel) rfl rfl (Nat.le_of_ble_eq_true rfl) dX6_init_34 (fun H locs hP hD hS => ?_)
  have hP : va_P D vwCl ((h0, .inr (6, [.ref q1, .ref q2, .ref q3, .ref q4, .int 0, .null, .int 0, .int 0, .null, .int 0, .null, .null, .null, .null, .null, .null, .null, .null, .int 0, .null, .null, .null])) :: (((([] ++ [(q1, cI cc 239 (fun _ => 0))]) ++ [(q2, cI cc 478 (fun _ => 0))]) ++ [(q3, cZ cc 2 (fun _ => 0))]) ++ [(q4, cI cc 20 (fun _ => 0))])) H := hP
  have hD : va_D A ((h0, .inr (6, [.ref q1, .ref q2, .ref q3, .ref q4, .int 0, .null, .int 0, .int 0, .null, .int 0, .null, .null, .null, .null, .null, .null, .null, .null, .int 0, .null, .null, .null])) :: (((([] ++ [(q1, cI cc 239 (fun _ => 0))]) ++ [(q2, cI cc 478 (fun _ => 0))]) ++ [(q3, cZ cc 2 (fun _ => 0))]) ++ [(q4, cI cc 20 (fun _ => 0))])) := hD
  refine lv_aload_n hx hb dX6_init_37 rfl (lv_at hl 0 rfl) ?_
  refine lv_bipush (v := 80) hx hb dX6_init_38 (by decide) ?_
  refine zn_newi (N' := 80) hx hb hw3 hK hP hD hS hA (by decide) (by decide) (Nat.le_of_ble_eq_true rfl) (Nat.le_of_ble_eq_true rfl) (Nat.le_of_ble_eq_true rfl) dX6_init_40 (fun q5 H hP hD hS => ?_)
  have hP : va_P D vwCl ((h0, .inr (6, [.ref q1, .ref q2, .ref q3, .ref q4, .int 0, .null, .int 0, .int 0, .null, .int 0, .null, .null, .null, .null, .null, .null, .null, .null, .int 0, .null, .null, .null])) :: ((((([] ++ [(q1, cI cc 239 (fun _ => 0))]) ++ [(q2, cI cc 478 (fun _ => 0))]) ++ [(q3, cZ cc 2 (fun _ => 0))]) ++ [(q4, cI cc 20 (fun _ => 0))]) ++ [(q5, cI cc 80 (fun _ => 0))])) H := hP
  have hD : va_D A ((h0, .inr (6, [.ref q1, .ref q2, .ref q3, .ref q4, .int 0, .null, .int 0, .int 0, .null, .int 0, .null, .null, .null, .null, .null, .null, .null, .null, .int 0, .null, .null, .null])) :: ((((([] ++ [(q1, cI cc 239 (fun _ => 0))]) ++ [(q2, cI cc 478 (fun _ => 0))]) ++ [(q3, cZ cc 2 (fun _ => 0))]) ++ [(q4, cI cc 20 (fun _ => 0))]) ++ [(q5, cI cc 80 (fun _ => 0))])) := hD
  refine W.widen (k := 5) (n := 819) (Nat.le_of_ble_eq_true rfl) (Nat.le_of_ble_eq_true rfl) ?_
  refine va_putF (D := D) (ci := 6) (v := .ref q5) (ty := .array .int) (C := RX6) (T := TX6) (N := 22) hx hb hts hi_X6 tyX6 tyX6_ok nmX6 hown hK hP hD hS 0 rfl rfl 5 (by decide) hw9 (fun _ h9 => h9) rfl hin rfl (by decide +kernel) rfl rfl (Nat.le_of_ble_eq_true rfl) dX6_init_42 (fun H locs hP hD hS => ?_)
  have hP : va_P D vwCl ((h0, .inr (6, [.ref q1, .ref q2, .ref q3, .ref q4, .int 0, .ref q5, .int 0, .int 0, .null, .int 0, .null, .null, .null, .null, .null, .null, .null, .null, .int 0, .null, .null, .null])) :: ((((([] ++ [(q1, cI cc 239 (fun _ => 0))]) ++ [(q2, cI cc 478 (fun _ => 0))]) ++ [(q3, cZ cc 2 (fun _ => 0))]) ++ [(q4, cI cc 20 (fun _ => 0))]) ++ [(q5, cI cc 80 (fun _ => 0))])) H := hP
  have hD : va_D A ((h0, .inr (6, [.ref q1, .ref q2, .ref q3, .ref q4, .int 0, .ref q5, .int 0, .int 0, .null, .int 0, .null, .null, .null, .null, .null, .null, .null, .null, .int 0, .null, .null, .null])) :: ((((([] ++ [(q1, cI cc 239 (fun _ => 0))]) ++ [(q2, cI cc 478 (fun _ => 0))]) ++ [(q3, cZ cc 2 (fun _ => 0))]) ++ [(q4, cI cc 20 (fun _ => 0))]) ++ [(q5, cI cc 80 (fun _ => 0))])) := hD
  refine lv_aload_n hx hb dX6_init_45 rfl (lv_at hl 0 rfl) ?_
  refine lv_bipush (v := 32) hx hb dX6_init_46 (by decide) ?_
  refine zn_newi (N' := 32) hx hb hw3 hK hP hD hS hA (by decide) (by decide) (Nat.le_of_ble_eq_true rfl) (Nat.le_of_ble_eq_true rfl) (Nat.le_of_ble_eq_true rfl) dX6_init_48 (fun q6 H hP hD hS => ?_)
  have hP : va_P D vwCl ((h0, .inr (6, [.ref q1, .ref q2, .ref q3, .ref q4, .int 0, .ref q5, .int 0, .int 0, .null, .int 0, .null, .null, .null, .null, .null, .null, .null, .null, .int 0, .null, .null, .null])) :: (((((([] ++ [(q1, cI cc 239 (fun _ => 0))]) ++ [(q2, cI cc 478 (fun _ => 0))]) ++ [(q3, cZ cc 2 (fun _ => 0))]) ++ [(q4, cI cc 20 (fun _ => 0))]) ++ [(q5, cI cc 80 (fun _ => 0))]) ++ [(q6, cI cc 32 (fun _ => 0))])) H := hP
  have hD : va_D A ((h0, .inr (6, [.ref q1, .ref q2, .ref q3, .ref q4, .int 0, .ref q5, .int 0, .int 0, .null, .int 0, .null, .null, .null, .null, .null, .null, .null, .null, .int 0, .null, .null, .null])) :: (((((([] ++ [(q1, cI cc 239 (fun _ => 0))]) ++ [(q2, cI cc 478 (fun _ => 0))]) ++ [(q3, cZ cc 2 (fun _ => 0))]) ++ [(q4, cI cc 20 (fun _ => 0))]) ++ [(q5, cI cc 80 (fun _ => 0))]) ++ [(q6, cI cc 32 (fun _ => 0))])) := hD
  refine W.widen (k := 6) (n := 851) (Nat.le_of_ble_eq_true rfl) (Nat.le_of_ble_eq_true rfl) ?_
  refine va_putF (D := D) (ci := 6) (v := .ref q6) (ty := .array .int) (C := RX6) (T := TX6) (N := 22) hx hb hts hi_X6 tyX6 tyX6_ok nmX6 hown hK hP hD hS 0 rfl rfl 8 (by decide) hw10 (fun _ h9 => h9) rfl hin rfl (by decide +kernel) rfl rfl (Nat.le_of_ble_eq_true rfl) dX6_init_50 (fun H locs hP hD hS => ?_)
  have hP : va_P D vwCl ((h0, .inr (6, [.ref q1, .ref q2, .ref q3, .ref q4, .int 0, .ref q5, .int 0, .int 0, .ref q6, .int 0, .null, .null, .null, .null, .null, .null, .null, .null, .int 0, .null, .null, .null])) :: (((((([] ++ [(q1, cI cc 239 (fun _ => 0))]) ++ [(q2, cI cc 478 (fun _ => 0))]) ++ [(q3, cZ cc 2 (fun _ => 0))]) ++ [(q4, cI cc 20 (fun _ => 0))]) ++ [(q5, cI cc 80 (fun _ => 0))]) ++ [(q6, cI cc 32 (fun _ => 0))])) H := hP
  have hD : va_D A ((h0, .inr (6, [.ref q1, .ref q2, .ref q3, .ref q4, .int 0, .ref q5, .int 0, .int 0, .ref q6, .int 0, .null, .null, .null, .null, .null, .null, .null, .null, .int 0, .null, .null, .null])) :: (((((([] ++ [(q1, cI cc 239 (fun _ => 0))]) ++ [(q2, cI cc 478 (fun _ => 0))]) ++ [(q3, cZ cc 2 (fun _ => 0))]) ++ [(q4, cI cc 20 (fun _ => 0))]) ++ [(q5, cI cc 80 (fun _ => 0))]) ++ [(q6, cI cc 32 (fun _ => 0))])) := hD
  refine lv_aload_n hx hb dX6_init_53 rfl (lv_at hl 0 rfl) ?_
  refine lv_bipush (v := 32) hx hb dX6_init_54 (by decide) ?_
  refine zn_newi (N' := 32) hx hb hw3 hK hP hD hS hA (by decide) (by decide) (Nat.le_of_ble_eq_true rfl) (Nat.le_of_ble_eq_true rfl) (Nat.le_of_ble_eq_true rfl) dX6_init_56 (fun q7 H hP hD hS => ?_)
  have hP : va_P D vwCl ((h0, .inr (6, [.ref q1, .ref q2, .ref q3, .ref q4, .int 0, .ref q5, .int 0, .int 0, .ref q6, .int 0, .null, .null, .null, .null, .null, .null, .null, .null, .int 0, .null, .null, .null])) :: ((((((([] ++ [(q1, cI cc 239 (fun _ => 0))]) ++ [(q2, cI cc 478 (fun _ => 0))]) ++ [(q3, cZ cc 2 (fun _ => 0))]) ++ [(q4, cI cc 20 (fun _ => 0))]) ++ [(q5, cI cc 80 (fun _ => 0))]) ++ [(q6, cI cc 32 (fun _ => 0))]) ++ [(q7, cI cc 32 (fun _ => 0))])) H := hP
  have hD : va_D A ((h0, .inr (6, [.ref q1, .ref q2, .ref q3, .ref q4, .int 0, .ref q5, .int 0, .int 0, .ref q6, .int 0, .null, .null, .null, .null, .null, .null, .null, .null, .int 0, .null, .null, .null])) :: ((((((([] ++ [(q1, cI cc 239 (fun _ => 0))]) ++ [(q2, cI cc 478 (fun _ => 0))]) ++ [(q3, cZ cc 2 (fun _ => 0))]) ++ [(q4, cI cc 20 (fun _ => 0))]) ++ [(q5, cI cc 80 (fun _ => 0))]) ++ [(q6, cI cc 32 (fun _ => 0))]) ++ [(q7, cI cc 32 (fun _ => 0))])) := hD
  refine W.widen (k := 7) (n := 883) (Nat.le_of_ble_eq_true rfl) (Nat.le_of_ble_eq_true rfl) ?_
  refine va_putF (D := D) (ci := 6) (v := .ref q7) (ty := .array .int) (C := RX6) (T := TX6) (N := 22) hx hb hts hi_X6 tyX6 tyX6_ok nmX6 hown hK hP hD hS 0 rfl rfl 10 (by decide) hw11 (fun _ h9 => h9) rfl hin rfl (by decide +kernel) rfl rfl (Nat.le_of_ble_eq_true rfl) dX6_init_58 (fun H locs hP hD hS => ?_)
  have hP : va_P D vwCl ((h0, .inr (6, [.ref q1, .ref q2, .ref q3, .ref q4, .int 0, .ref q5, .int 0, .int 0, .ref q6, .int 0, .ref q7, .null, .null, .null, .null, .null, .null, .null, .int 0, .null, .null, .null])) :: ((((((([] ++ [(q1, cI cc 239 (fun _ => 0))]) ++ [(q2, cI cc 478 (fun _ => 0))]) ++ [(q3, cZ cc 2 (fun _ => 0))]) ++ [(q4, cI cc 20 (fun _ => 0))]) ++ [(q5, cI cc 80 (fun _ => 0))]) ++ [(q6, cI cc 32 (fun _ => 0))]) ++ [(q7, cI cc 32 (fun _ => 0))])) H := hP
  have hD : va_D A ((h0, .inr (6, [.ref q1, .ref q2, .ref q3, .ref q4, .int 0, .ref q5, .int 0, .int 0, .ref q6, .int 0, .ref q7, .null, .null, .null, .null, .null, .null, .null, .int 0, .null, .null, .null])) :: ((((((([] ++ [(q1, cI cc 239 (fun _ => 0))]) ++ [(q2, cI cc 478 (fun _ => 0))]) ++ [(q3, cZ cc 2 (fun _ => 0))]) ++ [(q4, cI cc 20 (fun _ => 0))]) ++ [(q5, cI cc 80 (fun _ => 0))]) ++ [(q6, cI cc 32 (fun _ => 0))]) ++ [(q7, cI cc 32 (fun _ => 0))])) := hD
  refine lv_aload_n hx hb dX6_init_61 rfl (lv_at hl 0 rfl) ?_
  refine lv_bipush (v := 32) hx hb dX6_init_62 (by decide) ?_
  refine zn_newi (N' := 32) hx hb hw3 hK hP hD hS hA (by decide) (by decide) (Nat.le_of_ble_eq_true rfl) (Nat.le_of_ble_eq_true rfl) (Nat.le_of_ble_eq_true rfl) dX6_init_64 (fun q8 H hP hD hS => ?_)
  have hP : va_P D vwCl ((h0, .inr (6, [.ref q1, .ref q2, .ref q3, .ref q4, .int 0, .ref q5, .int 0, .int 0, .ref q6, .int 0, .ref q7, .null, .null, .null, .null, .null, .null, .null, .int 0, .null, .null, .null])) :: (((((((([] ++ [(q1, cI cc 239 (fun _ => 0))]) ++ [(q2, cI cc 478 (fun _ => 0))]) ++ [(q3, cZ cc 2 (fun _ => 0))]) ++ [(q4, cI cc 20 (fun _ => 0))]) ++ [(q5, cI cc 80 (fun _ => 0))]) ++ [(q6, cI cc 32 (fun _ => 0))]) ++ [(q7, cI cc 32 (fun _ => 0))]) ++ [(q8, cI cc 32 (fun _ => 0))])) H := hP
  have hD : va_D A ((h0, .inr (6, [.ref q1, .ref q2, .ref q3, .ref q4, .int 0, .ref q5, .int 0, .int 0, .ref q6, .int 0, .ref q7, .null, .null, .null, .null, .null, .null, .null, .int 0, .null, .null, .null])) :: (((((((([] ++ [(q1, cI cc 239 (fun _ => 0))]) ++ [(q2, cI cc 478 (fun _ => 0))]) ++ [(q3, cZ cc 2 (fun _ => 0))]) ++ [(q4, cI cc 20 (fun _ => 0))]) ++ [(q5, cI cc 80 (fun _ => 0))]) ++ [(q6, cI cc 32 (fun _ => 0))]) ++ [(q7, cI cc 32 (fun _ => 0))]) ++ [(q8, cI cc 32 (fun _ => 0))])) := hD
  refine W.widen (k := 8) (n := 915) (Nat.le_of_ble_eq_true rfl) (Nat.le_of_ble_eq_true rfl) ?_
  refine va_putF (D := D) (ci := 6) (v := .ref q8) (ty := .array .int) (C := RX6) (T := TX6) (N := 22) hx hb hts hi_X6 tyX6 tyX6_ok nmX6 hown hK hP hD hS 0 rfl rfl 11 (by decide) hw12 (fun _ h9 => h9) rfl hin rfl (by decide +kernel) rfl rfl (Nat.le_of_ble_eq_true rfl) dX6_init_66 (fun H locs hP hD hS => ?_)
  have hP : va_P D vwCl ((h0, .inr (6, [.ref q1, .ref q2, .ref q3, .ref q4, .int 0, .ref q5, .int 0, .int 0, .ref q6, .int 0, .ref q7, .ref q8, .null, .null, .null, .null, .null, .null, .int 0, .null, .null, .null])) :: (((((((([] ++ [(q1, cI cc 239 (fun _ => 0))]) ++ [(q2, cI cc 478 (fun _ => 0))]) ++ [(q3, cZ cc 2 (fun _ => 0))]) ++ [(q4, cI cc 20 (fun _ => 0))]) ++ [(q5, cI cc 80 (fun _ => 0))]) ++ [(q6, cI cc 32 (fun _ => 0))]) ++ [(q7, cI cc 32 (fun _ => 0))]) ++ [(q8, cI cc 32 (fun _ => 0))])) H := hP
  have hD : va_D A ((h0, .inr (6, [.ref q1, .ref q2, .ref q3, .ref q4, .int 0, .ref q5, .int 0, .int 0, .ref q6, .int 0, .ref q7, .ref q8, .null, .null, .null, .null, .null, .null, .int 0, .null, .null, .null])) :: (((((((([] ++ [(q1, cI cc 239 (fun _ => 0))]) ++ [(q2, cI cc 478 (fun _ => 0))]) ++ [(q3, cZ cc 2 (fun _ => 0))]) ++ [(q4, cI cc 20 (fun _ => 0))]) ++ [(q5, cI cc 80 (fun _ => 0))]) ++ [(q6, cI cc 32 (fun _ => 0))]) ++ [(q7, cI cc 32 (fun _ => 0))]) ++ [(q8, cI cc 32 (fun _ => 0))])) := hD
  refine lv_aload_n hx hb dX6_init_69 rfl (lv_at hl 0 rfl) ?_
  refine lv_bipush (v := 81) hx hb dX6_init_70 (by decide) ?_
  refine zn_newi (N' := 81) hx hb hw3 hK hP hD hS hA (by decide) (by decide) (Nat.le_of_ble_eq_true rfl) (Nat.le_of_ble_eq_true rfl) (Nat.le_of_ble_eq_true rfl) dX6_init_72 (fun q9 H hP hD hS => ?_)
  have hP : va_P D vwCl ((h0, .inr (6, [.ref q1, .ref q2, .ref q3, .ref q4, .int 0, .ref q5, .int 0, .int 0, .ref q6, .int 0, .ref q7, .ref q8, .null, .null, .null, .null, .null, .null, .int 0, .null, .null, .null])) :: ((((((((([] ++ [(q1, cI cc 239 (fun _ => 0))]) ++ [(q2, cI cc 478 (fun _ => 0))]) ++ [(q3, cZ cc 2 (fun _ => 0))]) ++ [(q4, cI cc 20 (fun _ => 0))]) ++ [(q5, cI cc 80 (fun _ => 0))]) ++ [(q6, cI cc 32 (fun _ => 0))]) ++ [(q7, cI cc 32 (fun _ => 0))]) ++ [(q8, cI cc 32 (fun _ => 0))]) ++ [(q9, cI cc 81 (fun _ => 0))])) H := hP
  have hD : va_D A ((h0, .inr (6, [.ref q1, .ref q2, .ref q3, .ref q4, .int 0, .ref q5, .int 0, .int 0, .ref q6, .int 0, .ref q7, .ref q8, .null, .null, .null, .null, .null, .null, .int 0, .null, .null, .null])) :: ((((((((([] ++ [(q1, cI cc 239 (fun _ => 0))]) ++ [(q2, cI cc 478 (fun _ => 0))]) ++ [(q3, cZ cc 2 (fun _ => 0))]) ++ [(q4, cI cc 20 (fun _ => 0))]) ++ [(q5, cI cc 80 (fun _ => 0))]) ++ [(q6, cI cc 32 (fun _ => 0))]) ++ [(q7, cI cc 32 (fun _ => 0))]) ++ [(q8, cI cc 32 (fun _ => 0))]) ++ [(q9, cI cc 81 (fun _ => 0))])) := hD
  refine W.widen (k := 9) (n := 996) (Nat.le_of_ble_eq_true rfl) (Nat.le_of_ble_eq_true rfl) ?_
  refine va_putF (D := D) (ci := 6) (v := .ref q9) (ty := .array .int) (C := RX6) (T := TX6) (N := 22) hx hb hts hi_X6 tyX6 tyX6_ok nmX6 hown hK hP hD hS 0 rfl rfl 12 (by decide) hw13 (fun _ h9 => h9) rfl hin rfl (by decide +kernel) rfl rfl (Nat.le_of_ble_eq_true rfl) dX6_init_74 (fun H locs hP hD hS => ?_)
  have hP : va_P D vwCl ((h0, .inr (6, [.ref q1, .ref q2, .ref q3, .ref q4, .int 0, .ref q5, .int 0, .int 0, .ref q6, .int 0, .ref q7, .ref q8, .ref q9, .null, .null, .null, .null, .null, .int 0, .null, .null, .null])) :: ((((((((([] ++ [(q1, cI cc 239 (fun _ => 0))]) ++ [(q2, cI cc 478 (fun _ => 0))]) ++ [(q3, cZ cc 2 (fun _ => 0))]) ++ [(q4, cI cc 20 (fun _ => 0))]) ++ [(q5, cI cc 80 (fun _ => 0))]) ++ [(q6, cI cc 32 (fun _ => 0))]) ++ [(q7, cI cc 32 (fun _ => 0))]) ++ [(q8, cI cc 32 (fun _ => 0))]) ++ [(q9, cI cc 81 (fun _ => 0))])) H := hP
  have hD : va_D A ((h0, .inr (6, [.ref q1, .ref q2, .ref q3, .ref q4, .int 0, .ref q5, .int 0, .int 0, .ref q6, .int 0, .ref q7, .ref q8, .ref q9, .null, .null, .null, .null, .null, .int 0, .null, .null, .null])) :: ((((((((([] ++ [(q1, cI cc 239 (fun _ => 0))]) ++ [(q2, cI cc 478 (fun _ => 0))]) ++ [(q3, cZ cc 2 (fun _ => 0))]) ++ [(q4, cI cc 20 (fun _ => 0))]) ++ [(q5, cI cc 80 (fun _ => 0))]) ++ [(q6, cI cc 32 (fun _ => 0))]) ++ [(q7, cI cc 32 (fun _ => 0))]) ++ [(q8, cI cc 32 (fun _ => 0))]) ++ [(q9, cI cc 81 (fun _ => 0))])) := hD
  refine lv_aload_n hx hb dX6_init_77 rfl (lv_at hl 0 rfl) ?_
  refine lv_bipush (v := 81) hx hb dX6_init_78 (by decide) ?_
  refine zn_newi (N' := 81) hx hb hw3 hK hP hD hS hA (by decide) (by decide) (Nat.le_of_ble_eq_true rfl) (Nat.le_of_ble_eq_true rfl) (Nat.le_of_ble_eq_true rfl) dX6_init_80 (fun q10 H hP hD hS => ?_)
  have hP : va_P D vwCl ((h0, .inr (6, [.ref q1, .ref q2, .ref q3, .ref q4, .int 0, .ref q5, .int 0, .int 0, .ref q6, .int 0, .ref q7, .ref q8, .ref q9, .null, .null, .null, .null, .null, .int 0, .null, .null, .null])) :: (((((((((([] ++ [(q1, cI cc 239 (fun _ => 0))]) ++ [(q2, cI cc 478 (fun _ => 0))]) ++ [(q3, cZ cc 2 (fun _ => 0))]) ++ [(q4, cI cc 20 (fun _ => 0))]) ++ [(q5, cI cc 80 (fun _ => 0))]) ++ [(q6, cI cc 32 (fun _ => 0))]) ++ [(q7, cI cc 32 (fun _ => 0))]) ++ [(q8, cI cc 32 (fun _ => 0))]) ++ [(q9, cI cc 81 (fun _ => 0))]) ++ [(q10, cI cc 81 (fun _ => 0))])) H := hP
  have hD : va_D A ((h0, .inr (6, [.ref q1, .ref q2, .ref q3, .ref q4, .int 0, .ref q5, .int 0, .int 0, .ref q6, .int 0, .ref q7, .ref q8, .ref q9, .null, .null, .null, .null, .null, .int 0, .null, .null, .null])) :: (((((((((([] ++ [(q1, cI cc 239 (fun _ => 0))]) ++ [(q2, cI cc 478 (fun _ => 0))]) ++ [(q3, cZ cc 2 (fun _ => 0))]) ++ [(q4, cI cc 20 (fun _ => 0))]) ++ [(q5, cI cc 80 (fun _ => 0))]) ++ [(q6, cI cc 32 (fun _ => 0))]) ++ [(q7, cI cc 32 (fun _ => 0))]) ++ [(q8, cI cc 32 (fun _ => 0))]) ++ [(q9, cI cc 81 (fun _ => 0))]) ++ [(q10, cI cc 81 (fun _ => 0))])) := hD
  refine W.widen (k := 10) (n := 1077) (Nat.le_of_ble_eq_true rfl) (Nat.le_of_ble_eq_true rfl) ?_
  refine va_putF (D := D) (ci := 6) (v := .ref q10) (ty := .array .int) (C := RX6) (T := TX6) (N := 22) hx hb hts hi_X6 tyX6 tyX6_ok nmX6 hown hK hP hD hS 0 rfl rfl 13 (by decide) hw14 (fun _ h9 => h9) rfl hin rfl (by decide +kernel) rfl rfl (Nat.le_of_ble_eq_true rfl) dX6_init_82 (fun H locs hP hD hS => ?_)
  have hP : va_P D vwCl ((h0, .inr (6, [.ref q1, .ref q2, .ref q3, .ref q4, .int 0, .ref q5, .int 0, .int 0, .ref q6, .int 0, .ref q7, .ref q8, .ref q9, .ref q10, .null, .null, .null, .null, .int 0, .null, .null, .null])) :: (((((((((([] ++ [(q1, cI cc 239 (fun _ => 0))]) ++ [(q2, cI cc 478 (fun _ => 0))]) ++ [(q3, cZ cc 2 (fun _ => 0))]) ++ [(q4, cI cc 20 (fun _ => 0))]) ++ [(q5, cI cc 80 (fun _ => 0))]) ++ [(q6, cI cc 32 (fun _ => 0))]) ++ [(q7, cI cc 32 (fun _ => 0))]) ++ [(q8, cI cc 32 (fun _ => 0))]) ++ [(q9, cI cc 81 (fun _ => 0))]) ++ [(q10, cI cc 81 (fun _ => 0))])) H := hP
  have hD : va_D A ((h0, .inr (6, [.ref q1, .ref q2, .ref q3, .ref q4, .int 0, .ref q5, .int 0, .int 0, .ref q6, .int 0, .ref q7, .ref q8, .ref q9, .ref q10, .null, .null, .null, .null, .int 0, .null, .null, .null])) :: (((((((((([] ++ [(q1, cI cc 239 (fun _ => 0))]) ++ [(q2, cI cc 478 (fun _ => 0))]) ++ [(q3, cZ cc 2 (fun _ => 0))]) ++ [(q4, cI cc 20 (fun _ => 0))]) ++ [(q5, cI cc 80 (fun _ => 0))]) ++ [(q6, cI cc 32 (fun _ => 0))]) ++ [(q7, cI cc 32 (fun _ => 0))]) ++ [(q8, cI cc 32 (fun _ => 0))]) ++ [(q9, cI cc 81 (fun _ => 0))]) ++ [(q10, cI cc 81 (fun _ => 0))])) := hD
  refine lv_aload_n hx hb dX6_init_85 rfl (lv_at hl 0 rfl) ?_
  refine lv_bipush (v := 81) hx hb dX6_init_86 (by decide) ?_
  refine zn_newi (N' := 81) hx hb hw3 hK hP hD hS hA (by decide) (by decide) (Nat.le_of_ble_eq_true rfl) (Nat.le_of_ble_eq_true rfl) (Nat.le_of_ble_eq_true rfl) dX6_init_88 (fun q11 H hP hD hS => ?_)
  have hP : va_P D vwCl ((h0, .inr (6, [.ref q1, .ref q2, .ref q3, .ref q4, .int 0, .ref q5, .int 0, .int 0, .ref q6, .int 0, .ref q7, .ref q8, .ref q9, .ref q10, .null, .null, .null, .null, .int 0, .null, .null, .null])) :: ((((((((((([] ++ [(q1, cI cc 239 (fun _ => 0))]) ++ [(q2, cI cc 478 (fun _ => 0))]) ++ [(q3, cZ cc 2 (fun _ => 0))]) ++ [(q4, cI cc 20 (fun _ => 0))]) ++ [(q5, cI cc 80 (fun _ => 0))]) ++ [(q6, cI cc 32 (fun _ => 0))]) ++ [(q7, cI cc 32 (fun _ => 0))]) ++ [(q8, cI cc 32 (fun _ => 0))]) ++ [(q9, cI cc 81 (fun _ => 0))]) ++ [(q10, cI cc 81 (fun _ => 0))]) ++ [(q11, cI cc 81 (fun _ => 0))])) H := hP
  have hD : va_D A ((h0, .inr (6, [.ref q1, .ref q2, .ref q3, .ref q4, .int 0, .ref q5, .int 0, .int 0, .ref q6, .int 0, .ref q7, .ref q8, .ref q9, .ref q10, .null, .null, .null, .null, .int 0, .null, .null, .null])) :: ((((((((((([] ++ [(q1, cI cc 239 (fun _ => 0))]) ++ [(q2, cI cc 478 (fun _ => 0))]) ++ [(q3, cZ cc 2 (fun _ => 0))]) ++ [(q4, cI cc 20 (fun _ => 0))]) ++ [(q5, cI cc 80 (fun _ => 0))]) ++ [(q6, cI cc 32 (fun _ => 0))]) ++ [(q7, cI cc 32 (fun _ => 0))]) ++ [(q8, cI cc 32 (fun _ => 0))]) ++ [(q9, cI cc 81 (fun _ => 0))]) ++ [(q10, cI cc 81 (fun _ => 0))]) ++ [(q11, cI cc 81 (fun _ => 0))])) := hD
  refine W.widen (k := 11) (n := 1158) (Nat.le_of_ble_eq_true rfl) (Nat.le_of_ble_eq_true rfl) ?_
  refine va_putF (D := D) (ci := 6) (v := .ref q11) (ty := .array .int) (C := RX6) (T := TX6) (N := 22) hx hb hts hi_X6 tyX6 tyX6_ok nmX6 hown hK hP hD hS 0 rfl rfl 14 (by decide) hw15 (fun _ h9 => h9) rfl hin rfl (by decide +kernel) rfl rfl (Nat.le_of_ble_eq_true rfl) dX6_init_90 (fun H locs hP hD hS => ?_)
  have hP : va_P D vwCl ((h0, .inr (6, [.ref q1, .ref q2, .ref q3, .ref q4, .int 0, .ref q5, .int 0, .int 0, .ref q6, .int 0, .ref q7, .ref q8, .ref q9, .ref q10, .ref q11, .null, .null, .null, .int 0, .null, .null, .null])) :: ((((((((((([] ++ [(q1, cI cc 239 (fun _ => 0))]) ++ [(q2, cI cc 478 (fun _ => 0))]) ++ [(q3, cZ cc 2 (fun _ => 0))]) ++ [(q4, cI cc 20 (fun _ => 0))]) ++ [(q5, cI cc 80 (fun _ => 0))]) ++ [(q6, cI cc 32 (fun _ => 0))]) ++ [(q7, cI cc 32 (fun _ => 0))]) ++ [(q8, cI cc 32 (fun _ => 0))]) ++ [(q9, cI cc 81 (fun _ => 0))]) ++ [(q10, cI cc 81 (fun _ => 0))]) ++ [(q11, cI cc 81 (fun _ => 0))])) H := hP
  have hD : va_D A ((h0, .inr (6, [.ref q1, .ref q2, .ref q3, .ref q4, .int 0, .ref q5, .int 0, .int 0, .ref q6, .int 0, .ref q7, .ref q8, .ref q9, .ref q10, .ref q11, .null, .null, .null, .int 0, .null, .null, .null])) :: ((((((((((([] ++ [(q1, cI cc 239 (fun _ => 0))]) ++ [(q2, cI cc 478 (fun _ => 0))]) ++ [(q3, cZ cc 2 (fun _ => 0))]) ++ [(q4, cI cc 20 (fun _ => 0))]) ++ [(q5, cI cc 80 (fun _ => 0))]) ++ [(q6, cI cc 32 (fun _ => 0))]) ++ [(q7, cI cc 32 (fun _ => 0))]) ++ [(q8, cI cc 32 (fun _ => 0))]) ++ [(q9, cI cc 81 (fun _ => 0))]) ++ [(q10, cI cc 81 (fun _ => 0))]) ++ [(q11, cI cc 81 (fun _ => 0))])) := hD
  refine lv_aload_n hx hb dX6_init_93 rfl (lv_at hl 0 rfl) ?_
  refine lv_bipush (v := 81) hx hb dX6_init_94 (by decide) ?_
  refine zn_newz (N' := 81) hx hb hw6 hK hP hD hS hA (by decide) (by decide) (Nat.le_of_ble_eq_true rfl) (Nat.le_of_ble_eq_true rfl) (Nat.le_of_ble_eq_true rfl) dX6_init_96 (fun q12 H hP hD hS => ?_)
  have hP : va_P D vwCl ((h0, .inr (6, [.ref q1, .ref q2, .ref q3, .ref q4, .int 0, .ref q5, .int 0, .int 0, .ref q6, .int 0, .ref q7, .ref q8, .ref q9, .ref q10, .ref q11, .null, .null, .null, .int 0, .null, .null, .null])) :: (((((((((((([] ++ [(q1, cI cc 239 (fun _ => 0))]) ++ [(q2, cI cc 478 (fun _ => 0))]) ++ [(q3, cZ cc 2 (fun _ => 0))]) ++ [(q4, cI cc 20 (fun _ => 0))]) ++ [(q5, cI cc 80 (fun _ => 0))]) ++ [(q6, cI cc 32 (fun _ => 0))]) ++ [(q7, cI cc 32 (fun _ => 0))]) ++ [(q8, cI cc 32 (fun _ => 0))]) ++ [(q9, cI cc 81 (fun _ => 0))]) ++ [(q10, cI cc 81 (fun _ => 0))]) ++ [(q11, cI cc 81 (fun _ => 0))]) ++ [(q12, cZ cc 81 (fun _ => 0))])) H := hP
  have hD : va_D A ((h0, .inr (6, [.ref q1, .ref q2, .ref q3, .ref q4, .int 0, .ref q5, .int 0, .int 0, .ref q6, .int 0, .ref q7, .ref q8, .ref q9, .ref q10, .ref q11, .null, .null, .null, .int 0, .null, .null, .null])) :: (((((((((((([] ++ [(q1, cI cc 239 (fun _ => 0))]) ++ [(q2, cI cc 478 (fun _ => 0))]) ++ [(q3, cZ cc 2 (fun _ => 0))]) ++ [(q4, cI cc 20 (fun _ => 0))]) ++ [(q5, cI cc 80 (fun _ => 0))]) ++ [(q6, cI cc 32 (fun _ => 0))]) ++ [(q7, cI cc 32 (fun _ => 0))]) ++ [(q8, cI cc 32 (fun _ => 0))]) ++ [(q9, cI cc 81 (fun _ => 0))]) ++ [(q10, cI cc 81 (fun _ => 0))]) ++ [(q11, cI cc 81 (fun _ => 0))]) ++ [(q12, cZ cc 81 (fun _ => 0))])) := hD
  refine W.widen (k := 12) (n := 1239) (Nat.le_of_ble_eq_true rfl) (Nat.le_of_ble_eq_true rfl) ?_
  refine va_putF (D := D) (ci := 6) (v := .ref q12) (ty := .array .boolean) (C := RX6) (T := TX6) (N := 22) hx hb hts hi_X6 tyX6 tyX6_ok nmX6 hown hK hP hD hS 0 rfl rfl 15 (by decide) hw16 (fun _ h9 => h9) rfl hin rfl (by decide +kernel) rfl rfl (Nat.le_of_ble_eq_true rfl) dX6_init_98 (fun H locs hP hD hS => ?_)
  have hP : va_P D vwCl ((h0, .inr (6, [.ref q1, .ref q2, .ref q3, .ref q4, .int 0, .ref q5, .int 0, .int 0, .ref q6, .int 0, .ref q7, .ref q8, .ref q9, .ref q10, .ref q11, .ref q12, .null, .null, .int 0, .null, .null, .null])) :: (((((((((((([] ++ [(q1, cI cc 239 (fun _ => 0))]) ++ [(q2, cI cc 478 (fun _ => 0))]) ++ [(q3, cZ cc 2 (fun _ => 0))]) ++ [(q4, cI cc 20 (fun _ => 0))]) ++ [(q5, cI cc 80 (fun _ => 0))]) ++ [(q6, cI cc 32 (fun _ => 0))]) ++ [(q7, cI cc 32 (fun _ => 0))]) ++ [(q8, cI cc 32 (fun _ => 0))]) ++ [(q9, cI cc 81 (fun _ => 0))]) ++ [(q10, cI cc 81 (fun _ => 0))]) ++ [(q11, cI cc 81 (fun _ => 0))]) ++ [(q12, cZ cc 81 (fun _ => 0))])) H := hP
  have hD : va_D A ((h0, .inr (6, [.ref q1, .ref q2, .ref q3, .ref q4, .int 0, .ref q5, .int 0, .int 0, .ref q6, .int 0, .ref q7, .ref q8, .ref q9, .ref q10, .ref q11, .ref q12, .null, .null, .int 0, .null, .null, .null])) :: (((((((((((([] ++ [(q1, cI cc 239 (fun _ => 0))]) ++ [(q2, cI cc 478 (fun _ => 0))]) ++ [(q3, cZ cc 2 (fun _ => 0))]) ++ [(q4, cI cc 20 (fun _ => 0))]) ++ [(q5, cI cc 80 (fun _ => 0))]) ++ [(q6, cI cc 32 (fun _ => 0))]) ++ [(q7, cI cc 32 (fun _ => 0))]) ++ [(q8, cI cc 32 (fun _ => 0))]) ++ [(q9, cI cc 81 (fun _ => 0))]) ++ [(q10, cI cc 81 (fun _ => 0))]) ++ [(q11, cI cc 81 (fun _ => 0))]) ++ [(q12, cZ cc 81 (fun _ => 0))])) := hD
  refine lv_aload_n hx hb dX6_init_101 rfl (lv_at hl 0 rfl) ?_
  refine lv_bipush (v := 82) hx hb dX6_init_102 (by decide) ?_
  refine zn_newi (N' := 82) hx hb hw3 hK hP hD hS hA (by decide) (by decide) (Nat.le_of_ble_eq_true rfl) (Nat.le_of_ble_eq_true rfl) (Nat.le_of_ble_eq_true rfl) dX6_init_104 (fun q13 H hP hD hS => ?_)
  have hP : va_P D vwCl ((h0, .inr (6, [.ref q1, .ref q2, .ref q3, .ref q4, .int 0, .ref q5, .int 0, .int 0, .ref q6, .int 0, .ref q7, .ref q8, .ref q9, .ref q10, .ref q11, .ref q12, .null, .null, .int 0, .null, .null, .null])) :: ((((((((((((([] ++ [(q1, cI cc 239 (fun _ => 0))]) ++ [(q2, cI cc 478 (fun _ => 0))]) ++ [(q3, cZ cc 2 (fun _ => 0))]) ++ [(q4, cI cc 20 (fun _ => 0))]) ++ [(q5, cI cc 80 (fun _ => 0))]) ++ [(q6, cI cc 32 (fun _ => 0))]) ++ [(q7, cI cc 32 (fun _ => 0))]) ++ [(q8, cI cc 32 (fun _ => 0))]) ++ [(q9, cI cc 81 (fun _ => 0))]) ++ [(q10, cI cc 81 (fun _ => 0))]) ++ [(q11, cI cc 81 (fun _ => 0))]) ++ [(q12, cZ cc 81 (fun _ => 0))]) ++ [(q13, cI cc 82 (fun _ => 0))])) H := hP
  have hD : va_D A ((h0, .inr (6, [.ref q1, .ref q2, .ref q3, .ref q4, .int 0, .ref q5, .int 0, .int 0, .ref q6, .int 0, .ref q7, .ref q8, .ref q9, .ref q10, .ref q11, .ref q12, .null, .null, .int 0, .null, .null, .null])) :: ((((((((((((([] ++ [(q1, cI cc 239 (fun _ => 0))]) ++ [(q2, cI cc 478 (fun _ => 0))]) ++ [(q3, cZ cc 2 (fun _ => 0))]) ++ [(q4, cI cc 20 (fun _ => 0))]) ++ [(q5, cI cc 80 (fun _ => 0))]) ++ [(q6, cI cc 32 (fun _ => 0))]) ++ [(q7, cI cc 32 (fun _ => 0))]) ++ [(q8, cI cc 32 (fun _ => 0))]) ++ [(q9, cI cc 81 (fun _ => 0))]) ++ [(q10, cI cc 81 (fun _ => 0))]) ++ [(q11, cI cc 81 (fun _ => 0))]) ++ [(q12, cZ cc 81 (fun _ => 0))]) ++ [(q13, cI cc 82 (fun _ => 0))])) := hD
  refine W.widen (k := 13) (n := 1321) (Nat.le_of_ble_eq_true rfl) (Nat.le_of_ble_eq_true rfl) ?_
  refine va_putF (D := D) (ci := 6) (v := .ref q13) (ty := .array .int) (C := RX6) (T := TX6) (N := 22) hx hb hts hi_X6 tyX6 tyX6_ok nmX6 hown hK hP hD hS 0 rfl rfl 16 (by decide) hw17 (fun _ h9 => h9) rfl hin rfl (by decide +kernel) rfl rfl (Nat.le_of_ble_eq_true rfl) dX6_init_106 (fun H locs hP hD hS => ?_)
  have hP : va_P D vwCl ((h0, .inr (6, [.ref q1, .ref q2, .ref q3, .ref q4, .int 0, .ref q5, .int 0, .int 0, .ref q6, .int 0, .ref q7, .ref q8, .ref q9, .ref q10, .ref q11, .ref q12, .ref q13, .null, .int 0, .null, .null, .null])) :: ((((((((((((([] ++ [(q1, cI cc 239 (fun _ => 0))]) ++ [(q2, cI cc 478 (fun _ => 0))]) ++ [(q3, cZ cc 2 (fun _ => 0))]) ++ [(q4, cI cc 20 (fun _ => 0))]) ++ [(q5, cI cc 80 (fun _ => 0))]) ++ [(q6, cI cc 32 (fun _ => 0))]) ++ [(q7, cI cc 32 (fun _ => 0))]) ++ [(q8, cI cc 32 (fun _ => 0))]) ++ [(q9, cI cc 81 (fun _ => 0))]) ++ [(q10, cI cc 81 (fun _ => 0))]) ++ [(q11, cI cc 81 (fun _ => 0))]) ++ [(q12, cZ cc 81 (fun _ => 0))]) ++ [(q13, cI cc 82 (fun _ => 0))])) H := hP
  have hD : va_D A ((h0, .inr (6, [.ref q1, .ref q2, .ref q3, .ref q4, .int 0, .ref q5, .int 0, .int 0, .ref q6, .int 0, .ref q7, .ref q8, .ref q9, .ref q10, .ref q11, .ref q12, .ref q13, .null, .int 0, .null, .null, .null])) :: ((((((((((((([] ++ [(q1, cI cc 239 (fun _ => 0))]) ++ [(q2, cI cc 478 (fun _ => 0))]) ++ [(q3, cZ cc 2 (fun _ => 0))]) ++ [(q4, cI cc 20 (fun _ => 0))]) ++ [(q5, cI cc 80 (fun _ => 0))]) ++ [(q6, cI cc 32 (fun _ => 0))]) ++ [(q7, cI cc 32 (fun _ => 0))]) ++ [(q8, cI cc 32 (fun _ => 0))]) ++ [(q9, cI cc 81 (fun _ => 0))]) ++ [(q10, cI cc 81 (fun _ => 0))]) ++ [(q11, cI cc 81 (fun _ => 0))]) ++ [(q12, cZ cc 81 (fun _ => 0))]) ++ [(q13, cI cc 82 (fun _ => 0))])) := hD
  refine lv_aload_n hx hb dX6_init_109 rfl (lv_at hl 0 rfl) ?_
  refine lv_bipush (v := 6) hx hb dX6_init_110 (by decide) ?_
  refine zn_newi (N' := 6) hx hb hw3 hK hP hD hS hA (by decide) (by decide) (Nat.le_of_ble_eq_true rfl) (Nat.le_of_ble_eq_true rfl) (Nat.le_of_ble_eq_true rfl) dX6_init_112 (fun q14 H hP hD hS => ?_)
  have hP : va_P D vwCl ((h0, .inr (6, [.ref q1, .ref q2, .ref q3, .ref q4, .int 0, .ref q5, .int 0, .int 0, .ref q6, .int 0, .ref q7, .ref q8, .ref q9, .ref q10, .ref q11, .ref q12, .ref q13, .null, .int 0, .null, .null, .null])) :: (((((((((((((([] ++ [(q1, cI cc 239 (fun _ => 0))]) ++ [(q2, cI cc 478 (fun _ => 0))]) ++ [(q3, cZ cc 2 (fun _ => 0))]) ++ [(q4, cI cc 20 (fun _ => 0))]) ++ [(q5, cI cc 80 (fun _ => 0))]) ++ [(q6, cI cc 32 (fun _ => 0))]) ++ [(q7, cI cc 32 (fun _ => 0))]) ++ [(q8, cI cc 32 (fun _ => 0))]) ++ [(q9, cI cc 81 (fun _ => 0))]) ++ [(q10, cI cc 81 (fun _ => 0))]) ++ [(q11, cI cc 81 (fun _ => 0))]) ++ [(q12, cZ cc 81 (fun _ => 0))]) ++ [(q13, cI cc 82 (fun _ => 0))]) ++ [(q14, cI cc 6 (fun _ => 0))])) H := hP
  have hD : va_D A ((h0, .inr (6, [.ref q1, .ref q2, .ref q3, .ref q4, .int 0, .ref q5, .int 0, .int 0, .ref q6, .int 0, .ref q7, .ref q8, .ref q9, .ref q10, .ref q11, .ref q12, .ref q13, .null, .int 0, .null, .null, .null])) :: (((((((((((((([] ++ [(q1, cI cc 239 (fun _ => 0))]) ++ [(q2, cI cc 478 (fun _ => 0))]) ++ [(q3, cZ cc 2 (fun _ => 0))]) ++ [(q4, cI cc 20 (fun _ => 0))]) ++ [(q5, cI cc 80 (fun _ => 0))]) ++ [(q6, cI cc 32 (fun _ => 0))]) ++ [(q7, cI cc 32 (fun _ => 0))]) ++ [(q8, cI cc 32 (fun _ => 0))]) ++ [(q9, cI cc 81 (fun _ => 0))]) ++ [(q10, cI cc 81 (fun _ => 0))]) ++ [(q11, cI cc 81 (fun _ => 0))]) ++ [(q12, cZ cc 81 (fun _ => 0))]) ++ [(q13, cI cc 82 (fun _ => 0))]) ++ [(q14, cI cc 6 (fun _ => 0))])) := hD
  refine W.widen (k := 14) (n := 1327) (Nat.le_of_ble_eq_true rfl) (Nat.le_of_ble_eq_true rfl) ?_
  refine va_putF (D := D) (ci := 6) (v := .ref q14) (ty := .array .int) (C := RX6) (T := TX6) (N := 22) hx hb hts hi_X6 tyX6 tyX6_ok nmX6 hown hK hP hD hS 0 rfl rfl 17 (by decide) hw18 (fun _ h9 => h9) rfl hin rfl (by decide +kernel) rfl rfl (Nat.le_of_ble_eq_true rfl) dX6_init_114 (fun H locs hP hD hS => ?_)
  have hP : va_P D vwCl ((h0, .inr (6, [.ref q1, .ref q2, .ref q3, .ref q4, .int 0, .ref q5, .int 0, .int 0, .ref q6, .int 0, .ref q7, .ref q8, .ref q9, .ref q10, .ref q11, .ref q12, .ref q13, .ref q14, .int 0, .null, .null, .null])) :: (((((((((((((([] ++ [(q1, cI cc 239 (fun _ => 0))]) ++ [(q2, cI cc 478 (fun _ => 0))]) ++ [(q3, cZ cc 2 (fun _ => 0))]) ++ [(q4, cI cc 20 (fun _ => 0))]) ++ [(q5, cI cc 80 (fun _ => 0))]) ++ [(q6, cI cc 32 (fun _ => 0))]) ++ [(q7, cI cc 32 (fun _ => 0))]) ++ [(q8, cI cc 32 (fun _ => 0))]) ++ [(q9, cI cc 81 (fun _ => 0))]) ++ [(q10, cI cc 81 (fun _ => 0))]) ++ [(q11, cI cc 81 (fun _ => 0))]) ++ [(q12, cZ cc 81 (fun _ => 0))]) ++ [(q13, cI cc 82 (fun _ => 0))]) ++ [(q14, cI cc 6 (fun _ => 0))])) H := hP
  have hD : va_D A ((h0, .inr (6, [.ref q1, .ref q2, .ref q3, .ref q4, .int 0, .ref q5, .int 0, .int 0, .ref q6, .int 0, .ref q7, .ref q8, .ref q9, .ref q10, .ref q11, .ref q12, .ref q13, .ref q14, .int 0, .null, .null, .null])) :: (((((((((((((([] ++ [(q1, cI cc 239 (fun _ => 0))]) ++ [(q2, cI cc 478 (fun _ => 0))]) ++ [(q3, cZ cc 2 (fun _ => 0))]) ++ [(q4, cI cc 20 (fun _ => 0))]) ++ [(q5, cI cc 80 (fun _ => 0))]) ++ [(q6, cI cc 32 (fun _ => 0))]) ++ [(q7, cI cc 32 (fun _ => 0))]) ++ [(q8, cI cc 32 (fun _ => 0))]) ++ [(q9, cI cc 81 (fun _ => 0))]) ++ [(q10, cI cc 81 (fun _ => 0))]) ++ [(q11, cI cc 81 (fun _ => 0))]) ++ [(q12, cZ cc 81 (fun _ => 0))]) ++ [(q13, cI cc 82 (fun _ => 0))]) ++ [(q14, cI cc 6 (fun _ => 0))])) := hD
  refine lv_aload_n hx hb dX6_init_117 rfl (lv_at hl 0 rfl) ?_
  refine lv_bipush (v := 6) hx hb dX6_init_118 (by decide) ?_
  refine zn_newi (N' := 6) hx hb hw3 hK hP hD hS hA (by decide) (by decide) (Nat.le_of_ble_eq_true rfl) (Nat.le_of_ble_eq_true rfl) (Nat.le_of_ble_eq_true rfl) dX6_init_120 (fun q15 H hP hD hS => ?_)
  have hP : va_P D vwCl ((h0, .inr (6, [.ref q1, .ref q2, .ref q3, .ref q4, .int 0, .ref q5, .int 0, .int 0, .ref q6, .int 0, .ref q7, .ref q8, .ref q9, .ref q10, .ref q11, .ref q12, .ref q13, .ref q14, .int 0, .null, .null, .null])) :: ((((((((((((((([] ++ [(q1, cI cc 239 (fun _ => 0))]) ++ [(q2, cI cc 478 (fun _ => 0))]) ++ [(q3, cZ cc 2 (fun _ => 0))]) ++ [(q4, cI cc 20 (fun _ => 0))]) ++ [(q5, cI cc 80 (fun _ => 0))]) ++ [(q6, cI cc 32 (fun _ => 0))]) ++ [(q7, cI cc 32 (fun _ => 0))]) ++ [(q8, cI cc 32 (fun _ => 0))]) ++ [(q9, cI cc 81 (fun _ => 0))]) ++ [(q10, cI cc 81 (fun _ => 0))]) ++ [(q11, cI cc 81 (fun _ => 0))]) ++ [(q12, cZ cc 81 (fun _ => 0))]) ++ [(q13, cI cc 82 (fun _ => 0))]) ++ [(q14, cI cc 6 (fun _ => 0))]) ++ [(q15, cI cc 6 (fun _ => 0))])) H := hP
  have hD : va_D A ((h0, .inr (6, [.ref q1, .ref q2, .ref q3, .ref q4, .int 0, .ref q5, .int 0, .int 0, .ref q6, .int 0, .ref q7, .ref q8, .ref q9, .ref q10, .ref q11, .ref q12, .ref q13, .ref q14, .int 0, .null, .null, .null])) :: ((((((((((((((([] ++ [(q1, cI cc 239 (fun _ => 0))]) ++ [(q2, cI cc 478 (fun _ => 0))]) ++ [(q3, cZ cc 2 (fun _ => 0))]) ++ [(q4, cI cc 20 (fun _ => 0))]) ++ [(q5, cI cc 80 (fun _ => 0))]) ++ [(q6, cI cc 32 (fun _ => 0))]) ++ [(q7, cI cc 32 (fun _ => 0))]) ++ [(q8, cI cc 32 (fun _ => 0))]) ++ [(q9, cI cc 81 (fun _ => 0))]) ++ [(q10, cI cc 81 (fun _ => 0))]) ++ [(q11, cI cc 81 (fun _ => 0))]) ++ [(q12, cZ cc 81 (fun _ => 0))]) ++ [(q13, cI cc 82 (fun _ => 0))]) ++ [(q14, cI cc 6 (fun _ => 0))]) ++ [(q15, cI cc 6 (fun _ => 0))])) := hD
  refine W.widen (k := 15) (n := 1333) (Nat.le_of_ble_eq_true rfl) (Nat.le_of_ble_eq_true rfl) ?_
  refine va_putF (D := D) (ci := 6) (v := .ref q15) (ty := .array .int) (C := RX6) (T := TX6) (N := 22) hx hb hts hi_X6 tyX6 tyX6_ok nmX6 hown hK hP hD hS 0 rfl rfl 19 (by decide) hw19 (fun _ h9 => h9) rfl hin rfl (by decide +kernel) rfl rfl (Nat.le_of_ble_eq_true rfl) dX6_init_122 (fun H locs hP hD hS => ?_)
  have hP : va_P D vwCl ((h0, .inr (6, [.ref q1, .ref q2, .ref q3, .ref q4, .int 0, .ref q5, .int 0, .int 0, .ref q6, .int 0, .ref q7, .ref q8, .ref q9, .ref q10, .ref q11, .ref q12, .ref q13, .ref q14, .int 0, .ref q15, .null, .null])) :: ((((((((((((((([] ++ [(q1, cI cc 239 (fun _ => 0))]) ++ [(q2, cI cc 478 (fun _ => 0))]) ++ [(q3, cZ cc 2 (fun _ => 0))]) ++ [(q4, cI cc 20 (fun _ => 0))]) ++ [(q5, cI cc 80 (fun _ => 0))]) ++ [(q6, cI cc 32 (fun _ => 0))]) ++ [(q7, cI cc 32 (fun _ => 0))]) ++ [(q8, cI cc 32 (fun _ => 0))]) ++ [(q9, cI cc 81 (fun _ => 0))]) ++ [(q10, cI cc 81 (fun _ => 0))]) ++ [(q11, cI cc 81 (fun _ => 0))]) ++ [(q12, cZ cc 81 (fun _ => 0))]) ++ [(q13, cI cc 82 (fun _ => 0))]) ++ [(q14, cI cc 6 (fun _ => 0))]) ++ [(q15, cI cc 6 (fun _ => 0))])) H := hP
  have hD : va_D A ((h0, .inr (6, [.ref q1, .ref q2, .ref q3, .ref q4, .int 0, .ref q5, .int 0, .int 0, .ref q6, .int 0, .ref q7, .ref q8, .ref q9, .ref q10, .ref q11, .ref q12, .ref q13, .ref q14, .int 0, .ref q15, .null, .null])) :: ((((((((((((((([] ++ [(q1, cI cc 239 (fun _ => 0))]) ++ [(q2, cI cc 478 (fun _ => 0))]) ++ [(q3, cZ cc 2 (fun _ => 0))]) ++ [(q4, cI cc 20 (fun _ => 0))]) ++ [(q5, cI cc 80 (fun _ => 0))]) ++ [(q6, cI cc 32 (fun _ => 0))]) ++ [(q7, cI cc 32 (fun _ => 0))]) ++ [(q8, cI cc 32 (fun _ => 0))]) ++ [(q9, cI cc 81 (fun _ => 0))]) ++ [(q10, cI cc 81 (fun _ => 0))]) ++ [(q11, cI cc 81 (fun _ => 0))]) ++ [(q12, cZ cc 81 (fun _ => 0))]) ++ [(q13, cI cc 82 (fun _ => 0))]) ++ [(q14, cI cc 6 (fun _ => 0))]) ++ [(q15, cI cc 6 (fun _ => 0))])) := hD
  refine lv_aload_n hx hb dX6_init_125 rfl (lv_at hl 0 rfl) ?_
  refine lv_sipush (v := 23040) hx hb dX6_init_126 (by decide) ?_
  refine zn_newi (N' := 23040) hx hb hw3 hK hP hD hS hA (by decide) (by decide) (Nat.le_of_ble_eq_true rfl) (Nat.le_of_ble_eq_true rfl) (Nat.le_of_ble_eq_true rfl) dX6_init_129 (fun q16 H hP hD hS => ?_)
  have hP : va_P D vwCl ((h0, .inr (6, [.ref q1, .ref q2, .ref q3, .ref q4, .int 0, .ref q5, .int 0, .int 0, .ref q6, .int 0, .ref q7, .ref q8, .ref q9, .ref q10, .ref q11, .ref q12, .ref q13, .ref q14, .int 0, .ref q15, .null, .null])) :: (((((((((((((((([] ++ [(q1, cI cc 239 (fun _ => 0))]) ++ [(q2, cI cc 478 (fun _ => 0))]) ++ [(q3, cZ cc 2 (fun _ => 0))]) ++ [(q4, cI cc 20 (fun _ => 0))]) ++ [(q5, cI cc 80 (fun _ => 0))]) ++ [(q6, cI cc 32 (fun _ => 0))]) ++ [(q7, cI cc 32 (fun _ => 0))]) ++ [(q8, cI cc 32 (fun _ => 0))]) ++ [(q9, cI cc 81 (fun _ => 0))]) ++ [(q10, cI cc 81 (fun _ => 0))]) ++ [(q11, cI cc 81 (fun _ => 0))]) ++ [(q12, cZ cc 81 (fun _ => 0))]) ++ [(q13, cI cc 82 (fun _ => 0))]) ++ [(q14, cI cc 6 (fun _ => 0))]) ++ [(q15, cI cc 6 (fun _ => 0))]) ++ [(q16, cI cc 23040 (fun _ => 0))])) H := hP
  have hD : va_D A ((h0, .inr (6, [.ref q1, .ref q2, .ref q3, .ref q4, .int 0, .ref q5, .int 0, .int 0, .ref q6, .int 0, .ref q7, .ref q8, .ref q9, .ref q10, .ref q11, .ref q12, .ref q13, .ref q14, .int 0, .ref q15, .null, .null])) :: (((((((((((((((([] ++ [(q1, cI cc 239 (fun _ => 0))]) ++ [(q2, cI cc 478 (fun _ => 0))]) ++ [(q3, cZ cc 2 (fun _ => 0))]) ++ [(q4, cI cc 20 (fun _ => 0))]) ++ [(q5, cI cc 80 (fun _ => 0))]) ++ [(q6, cI cc 32 (fun _ => 0))]) ++ [(q7, cI cc 32 (fun _ => 0))]) ++ [(q8, cI cc 32 (fun _ => 0))]) ++ [(q9, cI cc 81 (fun _ => 0))]) ++ [(q10, cI cc 81 (fun _ => 0))]) ++ [(q11, cI cc 81 (fun _ => 0))]) ++ [(q12, cZ cc 81 (fun _ => 0))]) ++ [(q13, cI cc 82 (fun _ => 0))]) ++ [(q14, cI cc 6 (fun _ => 0))]) ++ [(q15, cI cc 6 (fun _ => 0))]) ++ [(q16, cI cc 23040 (fun _ => 0))])) := hD
  refine W.widen (k := 16) (n := 24373) (Nat.le_of_ble_eq_true rfl) (Nat.le_of_ble_eq_true rfl) ?_
  refine va_putF (D := D) (ci := 6) (v := .ref q16) (ty := .array .int) (C := RX6) (T := TX6) (N := 22) hx hb hts hi_X6 tyX6 tyX6_ok nmX6 hown hK hP hD hS 0 rfl rfl 20 (by decide) hw20 (fun _ h9 => h9) rfl hin rfl (by decide +kernel) rfl rfl (Nat.le_of_ble_eq_true rfl) dX6_init_131 (fun H locs hP hD hS => ?_)
  have hP : va_P D vwCl ((h0, .inr (6, [.ref q1, .ref q2, .ref q3, .ref q4, .int 0, .ref q5, .int 0, .int 0, .ref q6, .int 0, .ref q7, .ref q8, .ref q9, .ref q10, .ref q11, .ref q12, .ref q13, .ref q14, .int 0, .ref q15, .ref q16, .null])) :: (((((((((((((((([] ++ [(q1, cI cc 239 (fun _ => 0))]) ++ [(q2, cI cc 478 (fun _ => 0))]) ++ [(q3, cZ cc 2 (fun _ => 0))]) ++ [(q4, cI cc 20 (fun _ => 0))]) ++ [(q5, cI cc 80 (fun _ => 0))]) ++ [(q6, cI cc 32 (fun _ => 0))]) ++ [(q7, cI cc 32 (fun _ => 0))]) ++ [(q8, cI cc 32 (fun _ => 0))]) ++ [(q9, cI cc 81 (fun _ => 0))]) ++ [(q10, cI cc 81 (fun _ => 0))]) ++ [(q11, cI cc 81 (fun _ => 0))]) ++ [(q12, cZ cc 81 (fun _ => 0))]) ++ [(q13, cI cc 82 (fun _ => 0))]) ++ [(q14, cI cc 6 (fun _ => 0))]) ++ [(q15, cI cc 6 (fun _ => 0))]) ++ [(q16, cI cc 23040 (fun _ => 0))])) H := hP
  have hD : va_D A ((h0, .inr (6, [.ref q1, .ref q2, .ref q3, .ref q4, .int 0, .ref q5, .int 0, .int 0, .ref q6, .int 0, .ref q7, .ref q8, .ref q9, .ref q10, .ref q11, .ref q12, .ref q13, .ref q14, .int 0, .ref q15, .ref q16, .null])) :: (((((((((((((((([] ++ [(q1, cI cc 239 (fun _ => 0))]) ++ [(q2, cI cc 478 (fun _ => 0))]) ++ [(q3, cZ cc 2 (fun _ => 0))]) ++ [(q4, cI cc 20 (fun _ => 0))]) ++ [(q5, cI cc 80 (fun _ => 0))]) ++ [(q6, cI cc 32 (fun _ => 0))]) ++ [(q7, cI cc 32 (fun _ => 0))]) ++ [(q8, cI cc 32 (fun _ => 0))]) ++ [(q9, cI cc 81 (fun _ => 0))]) ++ [(q10, cI cc 81 (fun _ => 0))]) ++ [(q11, cI cc 81 (fun _ => 0))]) ++ [(q12, cZ cc 81 (fun _ => 0))]) ++ [(q13, cI cc 82 (fun _ => 0))]) ++ [(q14, cI cc 6 (fun _ => 0))]) ++ [(q15, cI cc 6 (fun _ => 0))]) ++ [(q16, cI cc 23040 (fun _ => 0))])) := hD
  refine lv_aload_n hx hb dX6_init_134 rfl (lv_at hl 0 rfl) ?_
  refine lv_bipush (v := 6) hx hb dX6_init_135 (by decide) ?_
  refine zn_newi (N' := 6) hx hb hw3 hK hP hD hS hA (by decide) (by decide) (Nat.le_of_ble_eq_true rfl) (Nat.le_of_ble_eq_true rfl) (Nat.le_of_ble_eq_true rfl) dX6_init_137 (fun q17 H hP hD hS => ?_)
  have hP : va_P D vwCl ((h0, .inr (6, [.ref q1, .ref q2, .ref q3, .ref q4, .int 0, .ref q5, .int 0, .int 0, .ref q6, .int 0, .ref q7, .ref q8, .ref q9, .ref q10, .ref q11, .ref q12, .ref q13, .ref q14, .int 0, .ref q15, .ref q16, .null])) :: ((((((((((((((((([] ++ [(q1, cI cc 239 (fun _ => 0))]) ++ [(q2, cI cc 478 (fun _ => 0))]) ++ [(q3, cZ cc 2 (fun _ => 0))]) ++ [(q4, cI cc 20 (fun _ => 0))]) ++ [(q5, cI cc 80 (fun _ => 0))]) ++ [(q6, cI cc 32 (fun _ => 0))]) ++ [(q7, cI cc 32 (fun _ => 0))]) ++ [(q8, cI cc 32 (fun _ => 0))]) ++ [(q9, cI cc 81 (fun _ => 0))]) ++ [(q10, cI cc 81 (fun _ => 0))]) ++ [(q11, cI cc 81 (fun _ => 0))]) ++ [(q12, cZ cc 81 (fun _ => 0))]) ++ [(q13, cI cc 82 (fun _ => 0))]) ++ [(q14, cI cc 6 (fun _ => 0))]) ++ [(q15, cI cc 6 (fun _ => 0))]) ++ [(q16, cI cc 23040 (fun _ => 0))]) ++ [(q17, cI cc 6 (fun _ => 0))])) H := hP
  have hD : va_D A ((h0, .inr (6, [.ref q1, .ref q2, .ref q3, .ref q4, .int 0, .ref q5, .int 0, .int 0, .ref q6, .int 0, .ref q7, .ref q8, .ref q9, .ref q10, .ref q11, .ref q12, .ref q13, .ref q14, .int 0, .ref q15, .ref q16, .null])) :: ((((((((((((((((([] ++ [(q1, cI cc 239 (fun _ => 0))]) ++ [(q2, cI cc 478 (fun _ => 0))]) ++ [(q3, cZ cc 2 (fun _ => 0))]) ++ [(q4, cI cc 20 (fun _ => 0))]) ++ [(q5, cI cc 80 (fun _ => 0))]) ++ [(q6, cI cc 32 (fun _ => 0))]) ++ [(q7, cI cc 32 (fun _ => 0))]) ++ [(q8, cI cc 32 (fun _ => 0))]) ++ [(q9, cI cc 81 (fun _ => 0))]) ++ [(q10, cI cc 81 (fun _ => 0))]) ++ [(q11, cI cc 81 (fun _ => 0))]) ++ [(q12, cZ cc 81 (fun _ => 0))]) ++ [(q13, cI cc 82 (fun _ => 0))]) ++ [(q14, cI cc 6 (fun _ => 0))]) ++ [(q15, cI cc 6 (fun _ => 0))]) ++ [(q16, cI cc 23040 (fun _ => 0))]) ++ [(q17, cI cc 6 (fun _ => 0))])) := hD
  refine W.widen (k := 17) (n := 24379) (Nat.le_of_ble_eq_true rfl) (Nat.le_of_ble_eq_true rfl) ?_
  refine va_putF (D := D) (ci := 6) (v := .ref q17) (ty := .array .int) (C := RX6) (T := TX6) (N := 22) hx hb hts hi_X6 tyX6 tyX6_ok nmX6 hown hK hP hD hS 0 rfl rfl 21 (by decide) hw21 (fun _ h9 => h9) rfl hin rfl (by decide +kernel) rfl rfl (Nat.le_of_ble_eq_true rfl) dX6_init_139 (fun H locs hP hD hS => ?_)
  have hP : va_P D vwCl ((h0, .inr (6, [.ref q1, .ref q2, .ref q3, .ref q4, .int 0, .ref q5, .int 0, .int 0, .ref q6, .int 0, .ref q7, .ref q8, .ref q9, .ref q10, .ref q11, .ref q12, .ref q13, .ref q14, .int 0, .ref q15, .ref q16, .ref q17])) :: ((((((((((((((((([] ++ [(q1, cI cc 239 (fun _ => 0))]) ++ [(q2, cI cc 478 (fun _ => 0))]) ++ [(q3, cZ cc 2 (fun _ => 0))]) ++ [(q4, cI cc 20 (fun _ => 0))]) ++ [(q5, cI cc 80 (fun _ => 0))]) ++ [(q6, cI cc 32 (fun _ => 0))]) ++ [(q7, cI cc 32 (fun _ => 0))]) ++ [(q8, cI cc 32 (fun _ => 0))]) ++ [(q9, cI cc 81 (fun _ => 0))]) ++ [(q10, cI cc 81 (fun _ => 0))]) ++ [(q11, cI cc 81 (fun _ => 0))]) ++ [(q12, cZ cc 81 (fun _ => 0))]) ++ [(q13, cI cc 82 (fun _ => 0))]) ++ [(q14, cI cc 6 (fun _ => 0))]) ++ [(q15, cI cc 6 (fun _ => 0))]) ++ [(q16, cI cc 23040 (fun _ => 0))]) ++ [(q17, cI cc 6 (fun _ => 0))])) H := hP
  have hD : va_D A ((h0, .inr (6, [.ref q1, .ref q2, .ref q3, .ref q4, .int 0, .ref q5, .int 0, .int 0, .ref q6, .int 0, .ref q7, .ref q8, .ref q9, .ref q10, .ref q11, .ref q12, .ref q13, .ref q14, .int 0, .ref q15, .ref q16, .ref q17])) :: ((((((((((((((((([] ++ [(q1, cI cc 239 (fun _ => 0))]) ++ [(q2, cI cc 478 (fun _ => 0))]) ++ [(q3, cZ cc 2 (fun _ => 0))]) ++ [(q4, cI cc 20 (fun _ => 0))]) ++ [(q5, cI cc 80 (fun _ => 0))]) ++ [(q6, cI cc 32 (fun _ => 0))]) ++ [(q7, cI cc 32 (fun _ => 0))]) ++ [(q8, cI cc 32 (fun _ => 0))]) ++ [(q9, cI cc 81 (fun _ => 0))]) ++ [(q10, cI cc 81 (fun _ => 0))]) ++ [(q11, cI cc 81 (fun _ => 0))]) ++ [(q12, cZ cc 81 (fun _ => 0))]) ++ [(q13, cI cc 82 (fun _ => 0))]) ++ [(q14, cI cc 6 (fun _ => 0))]) ++ [(q15, cI cc 6 (fun _ => 0))]) ++ [(q16, cI cc 23040 (fun _ => 0))]) ++ [(q17, cI cc 6 (fun _ => 0))])) := hD
  refine lv_aload_n hx hb dX6_init_142 rfl (lv_at hl 0 rfl) ?_
  refine lv_iconst (v := 2) hx hb dX6_init_143 (by decide) ?_
  refine lv_iconst (v := 2) hx hb dX6_init_144 (by decide) ?_
  have hP : va_P D vwCl (wW shM 18 cc (fun p => [h0, q1, q2, q3, q4, q5, q6, q7, q8, q9, q10, q11, q12, q13, q14, q15, q16, q17].getD p 0) zeroM ++ []) H := hP
  have hD : va_D A (wW shM 18 cc (fun p => [h0, q1, q2, q3, q4, q5, q6, q7, q8, q9, q10, q11, q12, q13, q14, q15, q16, q17].getD p 0) zeroM ++ []) := hD
  refine zc_v (zc_runV (sh := shM) (N := 18) (q := 0) (ad := (fun p => [h0, q1, q2, q3, q4, q5, q6, q7, q8, q9, q10, q11, q12, q13, q14, q15, q16, q17].getD p 0)) (rs := []) (As := [.int 2, .int 2]) (rest := []) ⟨hx, hb, hml, hown, hts⟩ (c_X6_anew l D cc A (fun p => [h0, q1, q2, q3, q4, q5, q6, q7, q8, q9, q10, q11, q12, q13, q14, q15, q16, q17].getD p 0) [] 2 2 zeroM PM hPM) (cwV 2 hts gX6_init_X6_anew rfl rfl rfl (by decide +kernel) ⟨Nat.le_of_ble_eq_true rfl, Nat.le_of_ble_eq_true rfl⟩) kM_0 rfl hK hNC.2.2.2 hP hD rfl hl.1 rfl (Nat.le_of_ble_eq_true rfl) dX6_init_145 ⟨Nat.le_of_ble_eq_true rfl, Nat.le_of_ble_eq_true rfl⟩) hS (fun μ1 H locs hm hP hD hS => ?_)
  rw [List.append_nil] at hP hD
  exact W.vret hx hb hr (fun t ht hW => ⟨⟨((fun p => [h0, q1, q2, q3, q4, q5, q6, q7, q8, q9, q10, q11, q12, q13, q14, q15, q16, q17].getD p 0), μ1), rfl, ⟨rfl, hm⟩, by rw [ht]; exact hP, va_K.moved hW.alike hK, hD⟩, hS.F ht⟩) hS.2.2 dX6_init_148
