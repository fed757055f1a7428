theorem s_mix {a : Int64} {x : Int32} {μ : Mem} {K : Int64 → Mem → Prop} (h : K (mx a x) μ) : f_X5_mix a x μ K := h
theorem s_more {a : Int64} {x : Int32} {μ : Mem} {K : Int64 → Mem → Prop} (h : K (mx a x) μ) : f_X6_more a x μ K := h
theorem s_ckX {τ : SU} (ho : okS τ) {X : Mem} (hX : RXS X 1 τ) {wl : Nat} {wd : Nat → Nat} (hwl : wl ≤ 20) (hw : ∀ i, i < wl → wd i < suK τ ∧ X.1 36 i = nI (wd i)) (e5 : X.1 0 5 = nI wl) {K : Int64 → Mem → Prop} (hK : ∀ X', sX X X' → K (ckV τ wd wl) X') : f_X5_checksum X K := by
  intro G13 G49 h13 h49
  have h6 : suF τ ≤ 6 := ho.2.2.1
  show G13 (mx 83 (X.1 1 2)) 0 X
  rw [hX.2.2.1]
  refine lp_up (fun i (X' : Mem) => G13 (fI τ i) (nI i) X') (fun _ X' => sX X X') (suF τ) ?_ ?_ 0 X (by omega) (sX.rf X)
  · intro X0 s0
    have x0 := s0.xs hX h6
    refine h13 _ _ _ ⟨fun _ => ?_, fun c => absurd (by rw [x0.2.2.1]; exact Int32.le_refl _) c⟩
    refine s_clX ho x0 (fun X1 s1 => ?_)
    have t1' := s0.tr s1
    refine s_mix ?_
    refine s_orX ho (t1'.xs hX h6) (fun X2 s2 => ?_)
    have t2' := t1'.tr s2
    refine s_mix ?_
    refine s_opnX ho (t2'.xs hX h6) (fun X3 s3 => ?_)
    have t3' := t2'.tr s3
    refine s_mix ?_
    refine s_irX ho (t3'.xs hX h6) (fun v X4 s4 hv => ?_)
    have t4' := t3'.tr s4
    rw [irV_of hv]
    refine s_mix ?_
    refine s_mroX ho (t4'.xs hX h6) (fun X5 s5 => ?_)
    have t5' := t4'.tr s5
    refine s_feX ho (t5'.xs hX h6) (fun X6 s6 w6 => ?_)
    have t6' := t5'.tr s6
    refine s_mdX w6 ?_
    intro G14 h14
    refine s_brX ho (t6'.xs hX h6) (fun X7 s7 r7 => ?_)
    have t7' := t6'.tr s7
    have oR := rowA_mO ho (roL τ) (fun x hx => roL_lt ho hx) (rowA_B ho)
    have e5' : X7.1 0 5 = nI wl := by rw [t7'.1 0 (by omega)]; exact e5
    refine lp_up (fun i (a : Int64) => G14 a (nI i) X7) (fun i a => a = mxA (mO τ (roL τ) (suB τ)) wd (mxO (mxL (mx (mx (mx (mx (fI τ (suF τ)) (nI (sumN (fun i => cntB (clB τ i) (suF τ)) (suF τ)))) (nI (ordN τ))) (nI (opT τ))) (irV τ)) (roL τ)) (eff τ)) i) wl ?_ ?_ 0 _ (by omega) rfl
    · intro a ha
      exact h14 _ _ _ ⟨fun _ => by rw [ha]; exact hK X7 t7', fun c => absurd (by rw [e5']; exact Int32.le_refl _) c⟩
    · intro i a hi ha ih
      refine h14 _ _ _ ⟨fun c => absurd c (by rw [e5', q_le (by omega) (by omega)]; omega), fun _ => ?_⟩
      refine s_ansX (n := suN τ) (k := suK τ) ho.1.2 ho.2.1.2 oR hwl (fun i hi => (hw i hi).1) r7 e5' (fun i hi => by rw [t7'.1 36 (by omega)]; exact (hw i hi).2) hi ?_
      intro y e
      rw [e, nI_1]
      exact ih _ (by rw [ha]; rfl)
  · intro i X0 hi s0 ih
    have x0 := s0.xs hX h6
    refine h13 _ _ _ ⟨fun c => absurd c (by rw [x0.2.2.1, q_le (by omega) (by omega)]; omega), fun _ => ?_⟩
    refine s_hasFeature (n := suF τ) (by omega) x0.2.2.1 (fun _ => u1 ?_) (fun c => absurd ⟨i, hi, rfl⟩ c)
    refine s_countEdits (by omega) ?_
    have ec : cntB (fun c => decide (X0.1 (1+3+i) c ≠ -2)) 32 = cE τ i := cntB_congr 32 (fun c hc => by rw [x0.2.2.2.2.2.1 i hi c hc])
    rw [ec]
    refine s_mix ?_
    refine s_reachX ho x0 hi (fun X1 s1 => ?_)
    have t1' := s0.tr s1
    refine s_mix ?_
    intro y e
    rw [e, nI_1]
    refine lp_up (fun j (X' : Mem) => G49 (fJ τ i (mx (mx (fI τ i) (nI (cE τ i))) (nI (rcT τ i))) j) (nI i) (nI j) X') (fun j X' => i < j ∧ sX X X') (suF τ) ?_ ?_ (i+1) X1 (by omega) ⟨by omega, t1'⟩ |> fun q => by rw [fJ_low τ i _ (i+1) (by omega)] at q; exact q
    · intro X2 h2
      have x2 := h2.2.xs hX h6
      refine h49 _ _ _ _ ⟨fun _ y e => ?_, fun c => absurd (by rw [x2.2.2.1]; exact Int32.le_refl _) c⟩
      rw [e, nI_1]
      exact ih X2 h2.2
    · intro j X2 hj h2 ihj
      obtain ⟨hij, s2⟩ := h2
      have x2 := s2.xs hX h6
      refine h49 _ _ _ _ ⟨fun c => absurd c (by rw [x2.2.2.1, q_le (by omega) (by omega)]; omega), fun _ => ?_⟩
      refine s_areTwo (n := suF τ) (by omega) x2.2.2.1 (fun _ _ _ => u1 ?_) (fun c => absurd ⟨⟨i, hi, rfl⟩, ⟨j, hj, rfl⟩, fun q => by rw [q_eq (by omega) (by omega)] at q; omega⟩ c)
      refine s_fwX ho x2 hi hj (fun X3 s3 w3 => ?_)
      have t3' := s2.tr s3
      have fin : ∀ v : Int32, v = (if (wit τ i j).isSome then 1 else 0) → f_X5_mixDifference (mx (fJ τ i (mx (mx (fI τ i) (nI (cE τ i))) (nI (rcT τ i))) j) v) X3 (fun r45 μ46 => ∀ y47 : Int32, y47 = nI j + 1 → G49 r45 (nI i) y47 μ46) := by
        intro v hv
        refine s_mdX w3 (fun y e => ?_)
        rw [e, nI_1, hv]
        have := ihj X3 ⟨by omega, t3'⟩
        unfold fJ at this
        rw [if_pos hij] at this
        exact this
      cases hb : (wit τ i j).isSome with
      | true => rw [hb] at fin; exact t1 (fin 1 rfl)
      | false => rw [hb] at fin; exact t0 (fin 0 rfl)
