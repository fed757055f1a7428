theorem at33 (f : Nat) : (35 + 34 * nI f + 33 : Int32) = nI (35 + 34 * f + 33) := at_eq f 33
theorem p_setBefore : LS_setBefore RR := by
  intro X M a1 a2 h
  obtain ⟨τ, h1, h2, h3, h4⟩ := id h
  have h6 := h1.1.2.2.1
  have f1 : suF τ < 2147483648 := by omega
  refine s_areTwo f1 h1.2.1.2.2.1 (fun q1 q2 ne => u1 ?_) (fun q => u0 ?_)
  · obtain ⟨f, hf, rfl⟩ := id q1
    obtain ⟨g, hg, rfl⟩ := id q2
    have hne : f ≠ g := fun e => ne (by rw [e])
    refine s_stands h1.1 h1.2.1 hg hf ?_
    have ref : ∀ {K : Int32 → Mem → Prop}, (∀ M', (∀ p, p ≠ 17 → M'.1 p = M.1 p) → BH τ M' → ((suP τ g f = true → K (-3) M') ∧ (suP τ g f = false → f_X6_aheads (wI M' 1 (35+34*f+33) ((M'.1 1 (35+34*f+33)) ||| (1 <<< (nI g &&& 31)))) K))) → f_X6_setBefore (nI f) (nI g) M K := by
      intro K hK
      refine s_isPair f1 h1.2.2.2.2.1 (fun _ _ _ => u1 ?_) (fun c => absurd ⟨q1, q2, ne⟩ c)
      refine s_findBehind h1.1 h1.2.2 (fun M' e' bh => ?_)
      refine s_isAhead h1.1 bh (by omega) (by omega) ?_
      cases hq : suP τ g f with
      | true => exact t1 ((hK M' e' bh).1 hq)
      | false =>
        refine t0 ?_
        unfold f_X6_at
        rw [at33]
        refine ⟨v_in (by omega) (by omega), v_in (by omega) (by omega), fun μ13 e13 => ?_⟩
        rw [q_cl (by omega)] at e13
        rw [e13]
        exact (hK M' e' bh).2 hq
    cases hq : suP τ g f with
    | true =>
      refine t1 (ref (fun M' e' bh => ⟨fun _ => ⟨rfl, h.fr (sX.rf X) ⟨fun p a b => e' p (by omega), by rw [e' 0 (by omega)], by rw [e' 0 (by omega)]⟩⟩, fun c => (by rw [hq] at c; cases c)⟩))
    | false =>
      refine t0 ?_
      have ho' := okS_pre h1.1 hf hg hne hq
      refine s_prefer h1.1 h1.2.1 hf hg (fun X' eX rX => ?_)
      refine s_cntX ho' rX ?_
      refine ref (fun M' e' bh => ⟨fun c => (by rw [hq] at c; cases c), fun _ => ?_⟩)
      have rM : RMS (wI M' 1 (35+34*f+33) ((M'.1 1 (35+34*f+33)) ||| (1 <<< (nI g &&& 31)))) 1 0 (suPre τ f g) := RMS_pre h1.1 h1.2.2 hf hg ho' (by rw [wI_same, e' 1 (by omega)])
      refine s_aheads ho' rM (fun M2 e2 bh2 => ⟨rfl, ?_⟩)
      refine RR_mk h2 h3 h4 (τ' := suPre τ f g) ⟨ho', rX, rM.fr (e2 1 (by omega))⟩ rfl ⟨fun p hp => eX p (by omega), by rw [eX 33 (by omega)]⟩ ⟨fun p a b => by rw [e2 p (by omega), wI_row (by omega), e' p (by omega)], by rw [e2 0 (by omega), wI_row (by omega), e' 0 (by omega)], by rw [e2 0 (by omega), wI_row (by omega), e' 0 (by omega)]⟩
  · exact s_isPair f1 h1.2.2.2.2.1 (fun a b c => absurd ⟨a, b, c⟩ q) (fun _ => u0 ⟨rfl, h⟩)
theorem p_clearPriorities : LS_clearPriorities RR := by
  intro X M h
  obtain ⟨τ, h1, h2, h3, h4⟩ := id h
  have h6 := h1.1.2.2.1
  refine s_cntX h1.1 h1.2.1 ?_
  refine s_fill 10 6 0 X _ (by omega) ?_
  intro G7 h7
  refine s_aheads h1.1 h1.2.2 (fun M' e' bh => ?_)
  have nr : ∀ n f g, ¬ rch (fun _ _ => false) n f g := by
    intro n
    cases n with
    | zero => intro f g q; cases q
    | succ n => intro f g ⟨k, q, _⟩; cases q
  have key := lp_up (fun t (R : Nat → Int32) => G7 (nI (sumN (fun b => cntB (fun a => suP τ a b) 6) 6)) (nI t) (wA M' 1 R)) (fun t R => (∀ c, (∀ f, f < suF τ → c ≠ 35+34*f+33) → R c = M.1 1 c) ∧ ∀ f, f < t → R (35+34*f+33) = 0) (suF τ)
    (fun R hR => by
      have e34 : (wA M' 1 R).1 1 (34 : Int32).toNatClampNeg = nI (suF τ) := by
        rw [wA_eq]
        show R 34 = _
        rw [hR.1 34 (fun f _ => by omega)]
        exact h1.2.2.2.2.1
      refine h7 _ _ _ ⟨v_in (a := 34) (by decide) (by decide), fun _ => ⟨rfl, ?_⟩, fun c => absurd (by rw [e34]; exact Int32.le_refl _) c⟩
      have ho' : okS (τ.1, suB τ, suE τ, suO τ, fun _ _ => false) := okS_P h1.1 (fun f g q => by cases q) (fun f g k q => by cases q) (fun f => rfl)
      refine RR_mk h2 h3 h4 (τ' := (τ.1, suB τ, suE τ, suO τ, fun _ _ => false)) ⟨ho', RXS_P h6 h1.2.1 (fun p a b => wA_ne (by omega)) (fun g hg f hf => ?_), RMS_P (told' := fun _ _ => false) h1.2.2 (fun c hc => by rw [wA_eq]; exact hR.1 c hc) (fun f hf g hg => by rw [wA_eq, hR.2 f hf, b_0]) (fun f g q => by cases q) (fun f g => ⟨fun q => (by cases q), fun ⟨n, q⟩ => absurd q (nr n f g)⟩)⟩ rfl ⟨fun p hp => wA_ne (by omega), by rw [wA_ne (by omega)]⟩ ⟨fun p a b => by rw [wA_ne (by omega), e' p (by omega)], by rw [wA_ne (by omega), e' 0 (by omega)], by rw [wA_ne (by omega), e' 0 (by omega)]⟩
      rw [wA_eq]
      show bt (if g < 6 then 0 else _) f = false
      rw [if_pos hg, b_0])
    (fun t R ht hR ih => by
      have e34 : (wA M' 1 R).1 1 (34 : Int32).toNatClampNeg = nI (suF τ) := by
        rw [wA_eq]
        show R 34 = _
        rw [hR.1 34 (fun f _ => by omega)]
        exact h1.2.2.2.2.1
      refine h7 _ _ _ ⟨v_in (a := 34) (by decide) (by decide), fun c => absurd c (by rw [e34, q_le (by omega) (by omega)]; omega), fun _ => ?_⟩
      unfold f_X6_at
      rw [at33]
      refine ⟨v_in (by omega) (by omega), fun μ8 e8 y e => ?_⟩
      rw [e, nI_1]
      rw [q_cl (by omega), wI_wA] at e8
      rw [e8]
      refine ih _ ⟨fun c hc => by rw [upd_at, if_neg (hc t ht)]; exact hR.1 c hc, fun f hf => ?_⟩
      rw [upd_at]
      by_cases z : f = t
      · rw [if_pos (by omega)]
      · rw [if_neg (by omega)]; exact hR.2 f (by omega))
    0 (M'.1 1) (by omega) ⟨fun c hc => by rw [e' 1 (by omega)], fun f hf => by omega⟩
  rw [wA_self] at key
  exact key
/-! open pairs -/
def opn (τ : SU) (i j : Nat) : Bool := decide (i < j) && (suO τ i && (suO τ j && (!suP τ i j && (!suP τ j i && (wit τ i j).isSome))))
theorem s_opX {τ : SU} (ho : okS τ) {X : Mem} (hX : RXS X 1 τ) {i j : Nat} (hij : i < j) (hj : j < suF τ) {K : Int32 → Mem → Prop} (hK : ∀ X', sX X X' → K (if opn τ i j then 1 else 0) X') : f_X5_isOpenPair (nI i) (nI j) X K := by
  have h6 : suF τ ≤ 6 := ho.2.2.1
  unfold opn at hK
  rw [decide_eq_true hij, Bool.true_and] at hK
  refine s_isOnX h6 hX (by omega) ?_
  cases h1 : suO τ i with
  | false => rw [h1] at hK; exact t0 (hK X (sX.rf X))
  | true =>
    rw [h1, Bool.true_and] at hK
    refine t1 (s_isOnX h6 hX hj ?_)
    cases h2 : suO τ j with
    | false => rw [h2] at hK; exact t0 (hK X (sX.rf X))
    | true =>
      rw [h2, Bool.true_and] at hK
      refine t1 (s_stands ho hX (by omega) hj ?_)
      cases h3 : suP τ i j with
      | true => rw [h3] at hK; exact u1 (hK X (sX.rf X))
      | false =>
        rw [h3] at hK
        refine u0 (s_stands ho hX hj (by omega) ?_)
        cases h4 : suP τ j i with
        | true => rw [h4] at hK; exact u1 (hK X (sX.rf X))
        | false =>
          rw [h4] at hK
          refine u0 (s_fwX ho hX (by omega) hj (fun X' sx wx => ?_))
          cases h5 : (wit τ i j).isSome with
          | true => rw [h5] at hK; exact t1 (hK X' sx)
          | false => rw [h5] at hK; exact t0 (hK X' sx)
theorem s_opM {τ : SU} (ho : okS τ) {M : Mem} (hM : RMS M 1 0 τ) (bh : BH τ M) {i j : Nat} (hij : i < j) (hj : j < suF τ) {K : Int32 → Mem → Prop} (hK : ∀ M', sM M M' → M'.1 17 = M.1 17 → K (if opn τ i j then 1 else 0) M') : f_X6_isOpen (nI i) (nI j) M K := by
  have h6 : suF τ ≤ 6 := ho.2.2.1
  unfold opn at hK
  rw [decide_eq_true hij, Bool.true_and] at hK
  refine s_isOnM h6 hM (by omega) ?_
  cases h1 : suO τ i with
  | false => rw [h1] at hK; exact t0 (hK M (sM.rf M) rfl)
  | true =>
    rw [h1, Bool.true_and] at hK
    refine t1 (s_isOnM h6 hM hj ?_)
    cases h2 : suO τ j with
    | false => rw [h2] at hK; exact t0 (hK M (sM.rf M) rfl)
    | true =>
      rw [h2, Bool.true_and] at hK
      refine t1 (s_isAhead ho bh (by omega) (by omega) ?_)
      cases h3 : suP τ i j with
      | true => rw [h3] at hK; exact u1 (hK M (sM.rf M) rfl)
      | false =>
        rw [h3] at hK
        refine u0 (s_isAhead ho bh (by omega) (by omega) ?_)
        cases h4 : suP τ j i with
        | true => rw [h4] at hK; exact u1 (hK M (sM.rf M) rfl)
        | false =>
          rw [h4] at hK
          refine u0 (s_fwM17 ho hM (by omega) hj (fun v M' sm e17 wm => ?_))
          cases h5 : wit τ i j with
          | none =>
            rw [h5] at hK wm
            have wm : v = 0 := wm
            exact ⟨fun _ => hK M' sm e17, fun c => absurd (by rw [wm]; exact Int32.le_refl 0) c⟩
          | some w =>
            rw [h5] at hK wm
            have wm : v = nI w.length ∧ _ := wm
            have hw := wit_len ho (f := i) (g := j) (by omega) hj h5
            exact ⟨fun c => absurd c (by rw [wm.1]; exact nI_nle hw.1 (by omega)), fun _ => hK M' sm e17⟩
theorem p_open : LS_open RR := by
  intro X M h
  obtain ⟨τ, h1, h2, h3, h4⟩ := id h
  have h6 := h1.1.2.2.1
  have ho := h1.1
  have hX := h1.2.1
  have hM := h1.2.2
  let T : Nat := sumN (fun i => cntB (opn τ i) (suF τ)) (suF τ)
  have low : ∀ i, cntB (opn τ i) (i+1) = 0 := fun i => cnt_0 (i+1) (fun c hc => by unfold opn; simp; omega)
  have ref : ∀ X', sX X X' → f_X6_open M (fun r2 M1 => nI T = r2 ∧ RR X' M1) := by
    intro X' sx G8 G23 G49 h8 h23 h49
    refine s_findBehind ho hM (fun M0 e0 bh0 => ?_)
    have sm0 : sM M M0 := ⟨fun p a b => e0 p (by omega), by rw [e0 0 (by omega)], by rw [e0 0 (by omega)]⟩
    exact lp_up (fun i (s : Int32 × Mem) => G8 s.1 (nI i) s.2) (fun i s => sM M s.2 ∧ BH τ s.2 ∧ s.1 = nI (sumN (fun i => cntB (opn τ i) (suF τ)) i)) (suF τ)
      (fun s hs => by
        have hM' := hs.1.ms hM
        exact h8 _ _ _ ⟨v_in (a := 34) (by decide) (by decide), fun _ => ⟨hs.2.2.symm, h.fr sx hs.1⟩, fun c => absurd (by show s.2.1 1 34 ≤ _; rw [hM'.2.2.1]; exact Int32.le_refl _) c⟩)
      (fun i s hi hs ih => by
        have hM' := hs.1.ms hM
        refine h8 _ _ _ ⟨v_in (a := 34) (by decide) (by decide), fun c => absurd c (by show ¬ s.2.1 1 34 ≤ _; rw [hM'.2.2.1, q_le (by omega) (by omega)]; omega), fun _ y e => ?_⟩
        rw [e, nI_1]
        exact lp_up (fun j (s : Int32 × Mem) => G23 s.1 (nI i) (nI j) s.2) (fun j s => i < j ∧ sM M s.2 ∧ BH τ s.2 ∧ s.1 = nI (sumN (fun i => cntB (opn τ i) (suF τ)) i + cntB (opn τ i) j)) (suF τ)
          (fun s hs => by
            have hM' := hs.2.1.ms hM
            refine h23 _ _ _ _ ⟨v_in (a := 34) (by decide) (by decide), fun _ y e => ?_, fun c => absurd (by show s.2.1 1 34 ≤ _; rw [hM'.2.2.1]; exact Int32.le_refl _) c⟩
            rw [e, nI_1]
            exact ih s hs.2)
          (fun j s hj hs ihj => by
            obtain ⟨hij, sm, bh, hs⟩ := hs
            have hM' := sm.ms hM
            refine h23 _ _ _ _ ⟨v_in (a := 34) (by decide) (by decide), fun c => absurd c (by show ¬ s.2.1 1 34 ≤ _; rw [hM'.2.2.1, q_le (by omega) (by omega)]; omega), fun _ => ?_⟩
            have step : ∀ z M', sM M M' → BH τ M' → s.1 + z = nI (sumN (fun i => cntB (opn τ i) (suF τ)) i + cntB (opn τ i) (j+1)) → G49 (nI i) (nI j) z s.1 M' := fun z M' sm' bh' hv => h49 _ _ _ _ _ (fun y e y2 e2 => by rw [e2, nI_1]; exact ihj (y, M') ⟨by omega, sm', bh', by show y = _; rw [e, hv]⟩)
            refine s_opM ho hM' bh hij hj (fun M' sm' e17 => ?_)
            have bh' : BH τ M' := fun f hf g hg => by rw [e17]; exact bh f hf g hg
            cases hq : opn τ i j with
            | true => exact t1 (step 1 M' (sm.tr sm') bh' (by rw [hs, nI_1, cntB_t hq, Nat.add_assoc]))
            | false => exact t0 (step 0 M' (sm.tr sm') bh' (by rw [hs, cntB_f hq]; show nI _ + nI 0 = _; rw [nI_add]; rfl)))
          (i+1) s (by omega) ⟨by omega, hs.1, hs.2.1, by rw [hs.2.2, low]; rfl⟩)
      0 (0, M0) (by omega) ⟨sm0, bh0, rfl⟩
  intro G4 G19 G42 h4' h19 h42
  exact lp_up (fun i (s : Int32 × Mem) => G4 s.1 (nI i) s.2) (fun i s => sX X s.2 ∧ s.1 = nI (sumN (fun i => cntB (opn τ i) (suF τ)) i)) (suF τ)
    (fun s hs => by
      have hX' := hs.1.xs hX h6
      exact h4' _ _ _ ⟨fun _ => by rw [hs.2]; exact ref s.2 hs.1, fun c => absurd (by rw [hX'.2.2.1]; exact Int32.le_refl _) c⟩)
    (fun i s hi hs ih => by
      have hX' := hs.1.xs hX h6
      refine h4' _ _ _ ⟨fun c => absurd c (by rw [hX'.2.2.1, q_le (by omega) (by omega)]; omega), fun _ y e => ?_⟩
      rw [e, nI_1]
      exact lp_up (fun j (s : Int32 × Mem) => G19 s.1 (nI i) (nI j) s.2) (fun j s => i < j ∧ sX X s.2 ∧ s.1 = nI (sumN (fun i => cntB (opn τ i) (suF τ)) i + cntB (opn τ i) j)) (suF τ)
        (fun s hs => by
          have hX' := hs.2.1.xs hX h6
          refine h19 _ _ _ _ ⟨fun _ y e => ?_, fun c => absurd (by rw [hX'.2.2.1]; exact Int32.le_refl _) c⟩
          rw [e, nI_1]
          exact ih s hs.2)
        (fun j s hj hs ihj => by
          obtain ⟨hij, sx, hs⟩ := hs
          have hX' := sx.xs hX h6
          have step : ∀ v X', sX X X' → v = nI (sumN (fun i => cntB (opn τ i) (suF τ)) i + cntB (opn τ i) (j+1)) → G42 v (nI i) (nI j) X' := fun v X' sx' hv => h42 _ _ _ _ (fun y e => by rw [e, nI_1]; exact ihj (v, X') ⟨by omega, sx', hv⟩)
          refine h19 _ _ _ _ ⟨fun c => absurd c (by rw [hX'.2.2.1, q_le (by omega) (by omega)]; omega), fun _ => ?_⟩
          refine s_opX ho hX' hij hj (fun X' sx' => ?_)
          cases hq : opn τ i j with
          | true => exact t1 (fun y e => step y X' (sx.tr sx') (by rw [e, hs, nI_1, cntB_t hq, Nat.add_assoc]))
          | false => exact t0 (step _ X' (sx.tr sx') (by rw [hs, cntB_f hq])))
        (i+1) s (by omega) ⟨by omega, hs.1, by rw [hs.2, low]; rfl⟩)
    0 (0, X) (by omega) ⟨sX.rf X, rfl⟩
