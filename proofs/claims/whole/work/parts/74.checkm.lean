theorem eff_len {τ : SU} (ho : okS τ) : ∀ w, eff τ = some w → w.length ≤ 65 := fun _ h => (wt_len ho.1.1 ho.1.2 ho.2.1.2 (rowA_mO ho (roL τ) (fun x hx => roL_lt ho hx) (rowA_B ho)) (rowA_B ho) h).2
theorem s_ckM {τ : SU} (ho : okS τ) {M : Mem} (hM : RMS M 1 0 τ) {wl : Nat} {wd : Nat → Nat} (hwl : wl ≤ 20) (hw : ∀ i, i < wl → wd i < suK τ ∧ M.1 4 i = nI (wd i)) (e4 : M.1 0 4 = nI wl) {K : Int64 → Mem → Prop} (hK : ∀ M', sM M M' → K (ckV τ wd wl) M') : f_X6_checksum M K := by
  intro G16 G142 G50 G183 G83 h16 h142 h50 h183 h83
  have h6 : suF τ ≤ 6 := ho.2.2.1
  have l6 := onL_le τ
  have rl := roL_len τ
  have oR := rowA_mO ho (roL τ) (fun x hx => roL_lt ho hx) (rowA_B ho)
  have F0 : ∀ M', sM M M' → M'.1 1 (34 : Int32).toNatClampNeg = nI (suF τ) := fun M' s => (s.ms hM).2.2.1
  refine ⟨v_in (a := 34) (by decide) (by decide), s_more ?_⟩
  rw [F0 M (sM.rf M)]
  refine lp_up (fun i (M' : Mem) => G16 (fI τ i) (nI i) M') (fun _ M' => sM M M') (suF τ) ?_ ?_ 0 M (by omega) (sM.rf M)
  · intro M0 s0
    refine h16 _ _ _ ⟨v_in (a := 34) (by decide) (by decide), fun _ => ?_, fun c => absurd (by rw [F0 M0 s0]; exact Int32.le_refl _) c⟩
    refine s_clM ho (s0.ms hM) (fun M1 s1 => s_more ?_)
    rw [cl_same]
    have t1' := s0.tr s1
    refine s_orM ho (t1'.ms hM) (fun M2 s2 => s_more ?_)
    have t2' := t1'.tr s2
    refine s_opnM ho (t2'.ms hM) (fun M3 s3 => s_more ?_)
    have t3' := t2'.tr s3
    refine s_irM ho (t3'.ms hM) (fun v M4 s4 hv => s_more ?_)
    have t4' := t3'.tr s4
    rw [irV_of hv]
    refine s_frM ho (t4'.ms hM) (fun M5 s5 th5 bh5 h15 => ?_)
    have t5' := t4'.tr s5
    -- the rest, after the order's letters
    have rest : ∀ a, (∀ M', sM M M' → K (mxA (mO τ (roL τ) (suB τ)) wd (mxO a (eff τ)) wl) M') → f_X6_effects M5 (fun r34 μ35 => f_X6_moreApart a r34 μ35 (fun r36 μ37 => f_X6_findResolvedMachine μ37 (fun μ39 => G183 r36 0 μ39))) := by
      intro a ha
      refine s_feM ho (t5'.ms hM) (fun v M6 s6 w6 => ?_)
      have t6' := t5'.tr s6
      refine s_maM w6 (eff_len ho) ?_
      refine s_frm ho (t6'.ms hM) (fun M7 s7 r7 => ?_)
      have t7' := t6'.tr s7
      have e4' : M7.1 0 4 = nI wl := by rw [t7'.2.1]; exact e4
      refine lp_up (fun i (b : Int64) => G183 b (nI i) M7) (fun i b => b = mxA (mO τ (roL τ) (suB τ)) wd (mxO a (eff τ)) i) wl ?_ ?_ 0 _ (by omega) rfl
      · intro b hb
        exact h183 _ _ _ ⟨fun _ => by rw [hb]; exact ha M7 t7', fun c => absurd (by rw [e4']; exact Int32.le_refl _) c⟩
      · intro i b hi hb ih
        refine h183 _ _ _ ⟨fun c => absurd c (by rw [e4', q_le (by omega) (by omega)]; omega), fun _ => ?_⟩
        refine s_ansM (n := suN τ) (k := suK τ) ho.1.2 ho.2.1.2 oR hwl (fun i hi => (hw i hi).1) r7 (fun i hi => by rw [t7'.1 4 (by omega) (by omega)]; exact (hw i hi).2) hi (s_more ?_)
        intro y e
        rw [e, nI_1]
        exact ih _ (by rw [hb]; rfl)
    have go : ∀ (r i : Nat) (a : Int64), i + r = (roL τ).length → (∀ M', sM M M' → K (mxA (mO τ (roL τ) (suB τ)) wd (mxO (mxL a ((roL τ).drop i)) (eff τ)) wl) M') → G142 a (nI (roL τ).length) (nI i) M5 := by
      intro r
      induction r with
      | zero =>
        intro i a hi hk
        rw [List.drop_eq_nil_of_le (by omega)] at hk
        exact h142 _ _ _ _ ⟨fun _ => rest a hk, fun c => absurd (by rw [q_le (by omega) (by omega)]; omega) c⟩
      | succ r ih =>
        intro i a hi hk
        have hl : i < (roL τ).length := by omega
        rw [List.drop_eq_getElem_cons hl] at hk
        refine h142 _ _ _ _ ⟨fun c => absurd c (by rw [q_le (by omega) (by omega)]; omega), fun _ => ⟨v_in (by omega) (by omega), ?_⟩⟩
        rw [q_cl (by omega), h15 i _ (List.getElem?_eq_getElem hl)]
        refine s_more ?_
        intro y e
        rw [e, nI_1]
        exact ih (i+1) _ (by omega) hk
    exact go (roL τ).length 0 _ (by omega) (fun M' s => hK M' s)
  · intro i M0 hi s0 ih
    have m0 := s0.ms hM
    refine h16 _ _ _ ⟨v_in (a := 34) (by decide) (by decide), fun c => absurd c (by rw [F0 M0 s0, q_le (by omega) (by omega)]; omega), fun _ => ?_⟩
    refine s_count (by omega) (s_more ?_)
    have ec : cntB (fun c => decide (0 ≤ M0.1 1 (35+34*i+1+c))) 32 = cE τ i := cntB_congr 32 (fun c hc => by
      have := m0.2.2.2.2.2.1 i hi c hc
      rw [Nat.zero_add] at this
      rw [this, decide_eq_decide]
      exact encM_nn ho.1.2 (ho.2.2.2.2.1 i hi c hc))
    rw [ec]
    refine s_reachM ho m0 hi (fun M1 s1 => s_more ?_)
    have t1' := s0.tr s1
    intro y e
    rw [e, nI_1]
    refine lp_up (fun j (M' : Mem) => G50 (fJ τ i (mx (mx (fI τ i) (nI (cE τ i))) (nI (rcT τ i))) j) (nI i) (nI j) M') (fun j M' => i < j ∧ sM M M') (suF τ) ?_ ?_ (i+1) M1 (by omega) ⟨by omega, t1'⟩ |> fun q => by rw [fJ_low τ i _ (i+1) (by omega)] at q; exact q
    · intro M2 h2
      refine h50 _ _ _ _ ⟨v_in (a := 34) (by decide) (by decide), fun _ y e => ?_, fun c => absurd (by rw [F0 M2 h2.2]; exact Int32.le_refl _) c⟩
      rw [e, nI_1]
      exact ih M2 h2.2
    · intro j M2 hj h2 ihj
      obtain ⟨hij, s2⟩ := h2
      refine h50 _ _ _ _ ⟨v_in (a := 34) (by decide) (by decide), fun c => absurd c (by rw [F0 M2 s2, q_le (by omega) (by omega)]; omega), fun _ => ?_⟩
      refine s_fwM ho (s2.ms hM) hi hj (fun v M3 s3 w3 => ?_)
      have t3' := s2.tr s3
      have fin : ∀ z : Int32, z = (if (wit τ i j).isSome then 1 else 0) → G83 (nI i) (nI j) v z (fJ τ i (mx (mx (fI τ i) (nI (cE τ i))) (nI (rcT τ i))) j) M3 := by
        intro z hz
        refine h83 _ _ _ _ _ _ (s_more (s_maM w3 (fun w hw' => (wit_len ho hi hj hw').2) (fun y e => ?_)))
        rw [e, nI_1, hz]
        have := ihj M3 ⟨by omega, t3'⟩
        unfold fJ at this
        rw [if_pos hij] at this
        exact this
      cases hb : wit τ i j with
      | none =>
        rw [hb] at w3 fin
        have w3 : v = 0 := w3
        exact ⟨fun _ => fin 0 rfl, fun c => absurd (by rw [w3]; exact Int32.le_refl 0) c⟩
      | some w =>
        rw [hb] at w3 fin
        have w3 : v = nI w.length ∧ _ := w3
        have hl := wit_len ho hi hj hb
        exact ⟨fun c => absurd c (by rw [w3.1]; exact nI_nle hl.1 (by omega)), fun _ => fin 1 rfl⟩
theorem p_checksum : LS_checksum RR := by
  intro X M h
  obtain ⟨τ, h1, h2, h3, h4⟩ := id h
  obtain ⟨wl, wd, hwl, w1, w2, hw⟩ := id h2
  refine s_ckX h1.1 h1.2.1 hwl (fun i hi => ⟨(hw i hi).1, (hw i hi).2.1⟩) w1 (fun X' sx => ?_)
  exact s_ckM h1.1 h1.2.2 hwl (fun i hi => ⟨(hw i hi).1, (hw i hi).2.2⟩) w2 (fun M' sm => ⟨rfl, h.fr sx sm⟩)
