def opT (τ : SU) : Nat := sumN (fun i => cntB (opn τ i) (suF τ)) (suF τ)
theorem s_opnM {τ : SU} (ho : okS τ) {M : Mem} (hM : RMS M 1 0 τ) {K : Int32 → Mem → Prop} (hK : ∀ M', sM M M' → K (nI (opT τ)) M') : f_X6_openNow M K := by
  have h6 : suF τ ≤ 6 := ho.2.2.1
  have low : ∀ i, cntB (opn τ i) (i+1) = 0 := fun i => cnt_0 (i+1) (fun c hc => by unfold opn; simp; omega)
  intro G8 G23 G49 h8 h23 h49
  refine s_findBehind ho hM (fun M0 e0 bh0 => ?_)
  have sm0 : sM M M0 := ⟨fun p a b => e0 p (by omega), by rw [e0 0 (by omega)], by rw [e0 0 (by omega)]⟩
  exact lp_up (fun i (s : Int32 × Mem) => G8 s.1 (nI i) s.2) (fun i s => sM M s.2 ∧ BH τ s.2 ∧ s.1 = nI (sumN (fun i => cntB (opn τ i) (suF τ)) i)) (suF τ)
    (fun s hs => by
      have hM' := hs.1.ms hM
      exact h8 _ _ _ ⟨v_in (a := 34) (by decide) (by decide), fun _ => by rw [hs.2.2]; exact hK s.2 hs.1, fun c => absurd (by show s.2.1 1 34 ≤ _; rw [hM'.2.2.1]; exact Int32.le_refl _) c⟩)
    (fun i s hi hs ih => by
      have hM' := hs.1.ms hM
      refine h8 _ _ _ ⟨v_in (a := 34) (by decide) (by decide), fun c => absurd c (by show ¬ s.2.1 1 34 ≤ _; rw [hM'.2.2.1, q_le (by omega) (by omega)]; omega), fun _ y e => ?_⟩
      rw [e, nI_1]
      exact lp_up (fun j (s : Int32 × Mem) => G23 s.1 (nI i) (nI j) s.2) (fun j s => i < j ∧ sM M s.2 ∧ BH τ s.2 ∧ s.1 = nI (sumN (fun i => cntB (opn τ i) (suF τ)) i + cntB (opn τ i) j)) (suF τ)
        (fun s hs => by
          have hM' := hs.2.1.ms hM
          refine h23 _ _ _ _ ⟨v_in (a := 34) (by decide) (by decide), fun _ y e => ?_, fun c => absurd (by show s.2.1 1 34 ≤ _; rw [hM'.2.2.1]; exact Int32.le_refl _) c⟩
          rw [e, nI_1]
          exact ih s hs.2)
        (fun j s hj hs ihj => by
          obtain ⟨hij, sm, bh, hs⟩ := hs
          have hM' := sm.ms hM
          refine h23 _ _ _ _ ⟨v_in (a := 34) (by decide) (by decide), fun c => absurd c (by show ¬ s.2.1 1 34 ≤ _; rw [hM'.2.2.1, q_le (by omega) (by omega)]; omega), fun _ => ?_⟩
          have step : ∀ z M', sM M M' → BH τ M' → s.1 + z = nI (sumN (fun i => cntB (opn τ i) (suF τ)) i + cntB (opn τ i) (j+1)) → G49 (nI i) (nI j) z s.1 M' := fun z M' sm' bh' hv => h49 _ _ _ _ _ (fun y e y2 e2 => by rw [e2, nI_1]; exact ihj (y, M') ⟨by omega, sm', bh', by show y = _; rw [e, hv]⟩)
          refine s_opM ho hM' bh hij hj (fun M' sm' e17 => ?_)
          have bh' : BH τ M' := fun f hf g hg => by rw [e17]; exact bh f hf g hg
          cases hq : opn τ i j with
          | true => exact t1 (step 1 M' (sm.tr sm') bh' (by rw [hs, nI_1, cntB_t hq, Nat.add_assoc]))
          | false => exact t0 (step 0 M' (sm.tr sm') bh' (by rw [hs, cntB_f hq]; show nI _ + nI 0 = _; rw [nI_add]; rfl)))
        (i+1) s (by omega) ⟨by omega, hs.1, hs.2.1, by rw [hs.2.2, low]; rfl⟩)
    0 (0, M0) (by omega) ⟨sm0, bh0, rfl⟩
theorem s_opnX {τ : SU} (ho : okS τ) {X : Mem} (hX : RXS X 1 τ) {K : Int32 → Mem → Prop} (hK : ∀ X', sX X X' → K (nI (opT τ)) X') : f_X5_open X K := by
  have h6 : suF τ ≤ 6 := ho.2.2.1
  have low : ∀ i, cntB (opn τ i) (i+1) = 0 := fun i => cnt_0 (i+1) (fun c hc => by unfold opn; simp; omega)
  intro G4 G19 G42 h4' h19 h42
  exact lp_up (fun i (s : Int32 × Mem) => G4 s.1 (nI i) s.2) (fun i s => sX X s.2 ∧ s.1 = nI (sumN (fun i => cntB (opn τ i) (suF τ)) i)) (suF τ)
    (fun s hs => by
      have hX' := hs.1.xs hX h6
      exact h4' _ _ _ ⟨fun _ => by rw [hs.2]; exact hK s.2 hs.1, fun c => absurd (by rw [hX'.2.2.1]; exact Int32.le_refl _) c⟩)
    (fun i s hi hs ih => by
      have hX' := hs.1.xs hX h6
      refine h4' _ _ _ ⟨fun c => absurd c (by rw [hX'.2.2.1, q_le (by omega) (by omega)]; omega), fun _ y e => ?_⟩
      rw [e, nI_1]
      exact lp_up (fun j (s : Int32 × Mem) => G19 s.1 (nI i) (nI j) s.2) (fun j s => i < j ∧ sX X s.2 ∧ s.1 = nI (sumN (fun i => cntB (opn τ i) (suF τ)) i + cntB (opn τ i) j)) (suF τ)
        (fun s hs => by
          have hX' := hs.2.1.xs hX h6
          refine h19 _ _ _ _ ⟨fun _ y e => ?_, fun c => absurd (by rw [hX'.2.2.1]; exact Int32.le_refl _) c⟩
          rw [e, nI_1]
          exact ih s hs.2)
        (fun j s hj hs ihj => by
          obtain ⟨hij, sx, hs⟩ := hs
          have hX' := sx.xs hX h6
          have step : ∀ v X', sX X X' → v = nI (sumN (fun i => cntB (opn τ i) (suF τ)) i + cntB (opn τ i) (j+1)) → G42 v (nI i) (nI j) X' := fun v X' sx' hv => h42 _ _ _ _ (fun y e => by rw [e, nI_1]; exact ihj (v, X') ⟨by omega, sx', hv⟩)
          refine h19 _ _ _ _ ⟨fun c => absurd c (by rw [hX'.2.2.1, q_le (by omega) (by omega)]; omega), fun _ => ?_⟩
          refine s_opX ho hX' hij hj (fun X' sx' => ?_)
          cases hq : opn τ i j with
          | true => exact t1 (fun y e => step y X' (sx.tr sx') (by rw [e, hs, nI_1, cntB_t hq, Nat.add_assoc]))
          | false => exact t0 (step _ X' (sx.tr sx') (by rw [hs, cntB_f hq])))
        (i+1) s (by omega) ⟨by omega, hs.1, by rw [hs.2, low]; rfl⟩)
    0 (0, X) (by omega) ⟨sX.rf X, rfl⟩
