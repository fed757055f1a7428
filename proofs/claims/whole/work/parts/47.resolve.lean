/-! resolve: each open pair in turn -/
def rsJ (s : SU × Nat) (i : Nat) : Nat → SU × Nat
  | 0 => s
  | j + 1 => if opn (rsJ s i j).1 i j then (suPre (rsJ s i j).1 i j, (rsJ s i j).2 + 1) else rsJ s i j
def rsI (s : SU × Nat) (F : Nat) : Nat → SU × Nat
  | 0 => s
  | i + 1 => rsJ (rsI s F i) i F
theorem rsJ_low (s : SU × Nat) (i : Nat) : ∀ j, j ≤ i + 1 → rsJ s i j = s
  | 0, _ => rfl
  | j + 1, h => by
    unfold rsJ
    rw [rsJ_low s i j (by omega), if_neg (by unfold opn; simp; omega)]
def okF (τ σ : SU) : Prop := okS σ ∧ suF σ = suF τ ∧ suK σ = suK τ
theorem opn_ok {σ : SU} (h : okS σ) {i j : Nat} (hj : j < suF σ) (q : opn σ i j = true) : okS (suPre σ i j) := by
  unfold opn at q
  simp at q
  exact okS_pre h (by omega) hj (by omega) q.2.2.2.2.1
theorem rsJ_ok {τ : SU} {s : SU × Nat} (h : okF τ s.1) (i : Nat) : ∀ j, j ≤ suF τ → okF τ (rsJ s i j).1
  | 0, _ => h
  | j + 1, hj => by
    have ih := rsJ_ok h i j (by omega)
    unfold rsJ
    by_cases z : opn (rsJ s i j).1 i j = true
    · rw [if_pos z]
      exact ⟨opn_ok ih.1 (by rw [ih.2.1]; omega) z, ih.2.1, ih.2.2⟩
    · rw [if_neg z]; exact ih
theorem rsI_ok {τ : SU} {s : SU × Nat} (h : okF τ s.1) : ∀ i, okF τ (rsI s (suF τ) i).1
  | 0 => h
  | i + 1 => rsJ_ok (rsI_ok h i) i (suF τ) (Nat.le_refl _)
theorem s_rsX {τ : SU} (ho : okS τ) {X : Mem} (hX : RXS X 1 τ) {K : Int32 → Mem → Prop} (hK : ∀ X', tX X X' → RXS X' 1 (rsI (τ, 0) (suF τ) (suF τ)).1 → K (nI (rsI (τ, 0) (suF τ) (suF τ)).2) X') : f_X5_resolve X K := by
  intro G4 G19 G51 h4 h19 h51
  have h6 : suF τ ≤ 6 := ho.2.2.1
  have ok0 : okF τ (τ, 0).1 := ⟨ho, rfl, rfl⟩
  exact lp_up (fun i (s : Int32 × Mem) => G4 s.1 (nI i) s.2) (fun i s => tX X s.2 ∧ RXS s.2 1 (rsI (τ, 0) (suF τ) i).1 ∧ s.1 = nI (rsI (τ, 0) (suF τ) i).2) (suF τ)
    (fun s hs => by
      have e : s.2.1 1 2 = nI (suF τ) := by rw [hs.2.1.2.2.1, (rsI_ok ok0 _).2.1]
      exact h4 _ _ _ ⟨fun _ => by rw [hs.2.2]; exact hK s.2 hs.1 hs.2.1, fun c => absurd (by rw [e]; exact Int32.le_refl _) c⟩)
    (fun i s hi hs ih => by
      have e0 : s.2.1 1 2 = nI (suF τ) := by rw [hs.2.1.2.2.1, (rsI_ok ok0 _).2.1]
      refine h4 _ _ _ ⟨fun c => absurd c (by rw [e0, q_le (by omega) (by omega)]; omega), fun _ y e => ?_⟩
      rw [e, nI_1]
      have oki := rsI_ok ok0 i
      exact lp_up (fun j (s : Int32 × Mem) => G19 s.1 (nI i) (nI j) s.2) (fun j s => i < j ∧ tX X s.2 ∧ RXS s.2 1 (rsJ (rsI (τ, 0) (suF τ) i) i j).1 ∧ s.1 = nI (rsJ (rsI (τ, 0) (suF τ) i) i j).2) (suF τ)
        (fun s hs => by
          have e0 : s.2.1 1 2 = nI (suF τ) := by rw [hs.2.2.1.2.2.1, (rsJ_ok oki i _ (Nat.le_refl _)).2.1]
          refine h19 _ _ _ _ ⟨fun _ y e => ?_, fun c => absurd (by rw [e0]; exact Int32.le_refl _) c⟩
          rw [e, nI_1]
          exact ih s hs.2)
        (fun j s hj hs ihj => by
          obtain ⟨hij, tx, rx, hs⟩ := hs
          have okj := rsJ_ok oki i j (by omega)
          have e0 : s.2.1 1 2 = nI (suF τ) := by rw [rx.2.2.1, okj.2.1]
          have step : ∀ v X', tX X X' → RXS X' 1 (rsJ (rsI (τ, 0) (suF τ) i) i (j+1)).1 → v = nI (rsJ (rsI (τ, 0) (suF τ) i) i (j+1)).2 → G51 v (nI i) (nI j) X' := fun v X' a b c => h51 _ _ _ _ (fun y e => by rw [e, nI_1]; exact ihj (v, X') ⟨by omega, a, b, c⟩)
          refine h19 _ _ _ _ ⟨fun c => absurd c (by rw [e0, q_le (by omega) (by omega)]; omega), fun _ => ?_⟩
          refine s_opX okj.1 rx hij (by rw [okj.2.1]; exact hj) (fun X' sx => ?_)
          have rx' := sx.xs rx okj.1.2.2.1
          have tx' := tx.tr sx.t
          unfold rsJ at step
          cases hq : opn (rsJ (rsI (τ, 0) (suF τ) i) i j).1 i j with
          | true =>
            rw [if_pos hq] at step
            refine t1 (s_prefer okj.1 rx' (by rw [okj.2.1]; omega) (by rw [okj.2.1]; exact hj) (fun X2 e2 r2 y e => ?_))
            exact step _ X2 (tx'.tr ⟨fun p hp => e2 p (by omega), by rw [e2 33 (by omega)]⟩) r2 (by rw [e, hs, nI_1])
          | false =>
            rw [if_neg (by rw [hq]; exact Bool.false_ne_true)] at step
            exact t0 (step _ X' tx' rx' hs))
        (i+1) s (by omega) ⟨by omega, hs.1, by rw [rsJ_low _ i (i+1) (by omega)]; exact hs.2.1, by rw [rsJ_low _ i (i+1) (by omega)]; exact hs.2.2⟩)
    0 (0, X) (by omega) ⟨(sX.rf X).t, hX, rfl⟩
theorem s_rsM {τ : SU} (ho : okS τ) {M : Mem} (hM : RMS M 1 0 τ) {K : Int32 → Mem → Prop} (hK : ∀ M', tM M M' → RMS M' 1 0 (rsI (τ, 0) (suF τ) (suF τ)).1 → K (nI (rsI (τ, 0) (suF τ) (suF τ)).2) M') : f_X6_resolve M K := by
  intro G8 G23 G67 h8 h23 h67
  have h6 : suF τ ≤ 6 := ho.2.2.1
  have ok0 : okF τ (τ, 0).1 := ⟨ho, rfl, rfl⟩
  have t17 : ∀ {A B : Mem}, (∀ p, p ≠ 17 → B.1 p = A.1 p) → tM A B := fun e => ⟨fun p a b => e p (by omega), by rw [e 0 (by omega)], by rw [e 0 (by omega)]⟩
  refine s_findBehind ho hM (fun M0 e0 bh0 => ?_)
  exact lp_up (fun i (s : Int32 × Mem) => G8 s.1 (nI i) s.2) (fun i s => tM M s.2 ∧ RMS s.2 1 0 (rsI (τ, 0) (suF τ) i).1 ∧ BH (rsI (τ, 0) (suF τ) i).1 s.2 ∧ s.1 = nI (rsI (τ, 0) (suF τ) i).2) (suF τ)
    (fun s hs => by
      have e : s.2.1 1 34 = nI (suF τ) := by have := hs.2.1.2.2.1; rw [(rsI_ok ok0 _).2.1] at this; exact this
      exact h8 _ _ _ ⟨v_in (a := 34) (by decide) (by decide), fun _ => by rw [hs.2.2.2]; exact hK s.2 hs.1 hs.2.1, fun c => absurd (by show s.2.1 1 34 ≤ _; rw [e]; exact Int32.le_refl _) c⟩)
    (fun i s hi hs ih => by
      have e0 : s.2.1 1 34 = nI (suF τ) := by have := hs.2.1.2.2.1; rw [(rsI_ok ok0 _).2.1] at this; exact this
      refine h8 _ _ _ ⟨v_in (a := 34) (by decide) (by decide), fun c => absurd c (by show ¬ s.2.1 1 34 ≤ _; rw [e0, q_le (by omega) (by omega)]; omega), fun _ y e => ?_⟩
      rw [e, nI_1]
      have oki := rsI_ok ok0 i
      exact lp_up (fun j (s : Int32 × Mem) => G23 s.1 (nI i) (nI j) s.2) (fun j s => i < j ∧ tM M s.2 ∧ RMS s.2 1 0 (rsJ (rsI (τ, 0) (suF τ) i) i j).1 ∧ BH (rsJ (rsI (τ, 0) (suF τ) i) i j).1 s.2 ∧ s.1 = nI (rsJ (rsI (τ, 0) (suF τ) i) i j).2) (suF τ)
        (fun s hs => by
          have e0 : s.2.1 1 34 = nI (suF τ) := by have := hs.2.2.1.2.2.1; rw [(rsJ_ok oki i _ (Nat.le_refl _)).2.1] at this; exact this
          refine h23 _ _ _ _ ⟨v_in (a := 34) (by decide) (by decide), fun _ y e => ?_, fun c => absurd (by show s.2.1 1 34 ≤ _; rw [e0]; exact Int32.le_refl _) c⟩
          rw [e, nI_1]
          exact ih s hs.2)
        (fun j s hj hs ihj => by
          obtain ⟨hij, tx, rx, bh, hs⟩ := hs
          have okj := rsJ_ok oki i j (by omega)
          have e0 : s.2.1 1 34 = nI (suF τ) := by have := rx.2.2.1; rw [okj.2.1] at this; exact this
          have step : ∀ v M', tM M M' → RMS M' 1 0 (rsJ (rsI (τ, 0) (suF τ) i) i (j+1)).1 → BH (rsJ (rsI (τ, 0) (suF τ) i) i (j+1)).1 M' → v = nI (rsJ (rsI (τ, 0) (suF τ) i) i (j+1)).2 → G67 v (nI i) (nI j) M' := fun v X' a b b2 c => h67 _ _ _ _ (fun y e => by rw [e, nI_1]; exact ihj (v, X') ⟨by omega, a, b, b2, c⟩)
          refine h23 _ _ _ _ ⟨v_in (a := 34) (by decide) (by decide), fun c => absurd c (by show ¬ s.2.1 1 34 ≤ _; rw [e0, q_le (by omega) (by omega)]; omega), fun _ => ?_⟩
          refine s_opM okj.1 rx bh hij (by rw [okj.2.1]; exact hj) (fun M' sm e17 => ?_)
          have rx' := sm.ms rx
          have tx' := tx.tr sm.t
          unfold rsJ at step
          cases hq : opn (rsJ (rsI (τ, 0) (suF τ) i) i j).1 i j with
          | true =>
            rw [if_pos hq] at step
            refine t1 ?_
            unfold f_X6_at
            rw [at33]
            refine ⟨v_in (by omega) (by omega), v_in (by omega) (by omega), fun μ16 e16 => ?_⟩
            rw [q_cl (by omega)] at e16
            have ok' := opn_ok okj.1 (by rw [okj.2.1]; exact hj) hq
            have r16 : RMS μ16 1 0 (suPre (rsJ (rsI (τ, 0) (suF τ) i) i j).1 i j) := RMS_pre okj.1 rx' (by rw [okj.2.1]; omega) (by rw [okj.2.1]; exact hj) ok' (by rw [e16, wI_same])
            have t16 : tM M' μ16 := by rw [e16]; exact ⟨fun p a b => wI_row (by omega), by rw [wI_row (by omega)], by rw [wI_row (by omega)]⟩
            refine s_findBehind ok' r16 (fun M2 e2 bh2 y e => ?_)
            exact step _ M2 ((tx'.tr t16).tr (t17 e2)) (r16.fr (e2 1 (by omega))) bh2 (by rw [e, hs, nI_1])
          | false =>
            rw [if_neg (by rw [hq]; exact Bool.false_ne_true)] at step
            exact t0 (step _ M' tx' rx' (fun f hf g hg => by rw [e17]; exact bh f hf g hg) hs))
        (i+1) s (by omega) ⟨by omega, hs.1, by rw [rsJ_low _ i (i+1) (by omega)]; exact hs.2.1, by rw [rsJ_low _ i (i+1) (by omega)]; exact hs.2.2.1, by rw [rsJ_low _ i (i+1) (by omega)]; exact hs.2.2.2⟩)
    0 (0, M0) (by omega) ⟨t17 e0, hM.fr (e0 1 (by omega)), bh0, rfl⟩
theorem p_resolve : LS_resolve RR := by
  intro X M h
  obtain ⟨τ, h1, h2, h3, h4⟩ := id h
  have ok0 : okF τ (τ, 0).1 := ⟨h1.1, rfl, rfl⟩
  have ok := rsI_ok ok0 (suF τ)
  refine s_rsX h1.1 h1.2.1 (fun X' tx rx => ?_)
  refine s_rsM h1.1 h1.2.2 (fun M' tm rm => ⟨rfl, ?_⟩)
  exact RR_mk h2 h3 h4 ⟨ok.1, rx, rm⟩ ok.2.2 tx tm
