/-! rivals: two features that change one cell otherwise -/
def rvl (τ : SU) (a b : Nat) : Bool := (List.range 32).any (fun c => decide (suE τ a c ≠ -2) && (decide (suE τ b c ≠ -2) && decide (suE τ a c ≠ suE τ b c)))
theorem s_areRivals {τ : SU} {a b p0 p1 : Nat} {μ : Mem} (h0 : isRow μ p0 (suE τ a)) (h1 : isRow μ p1 (suE τ b)) {K : Int32 → Mem → Prop} (hK : K (if rvl τ a b then 1 else 0) μ) : f_X1_areRivals p0 p1 μ K := by
  intro G2 G28 G29 G45 h2 h28 h29 h45
  let q : Nat → Bool := fun c => decide (suE τ a c ≠ -2) && (decide (suE τ b c ≠ -2) && decide (suE τ a c ≠ suE τ b c))
  have hq : rvl τ a b = (List.range 32).any q := rfl
  exact lp_up (fun c (_ : Unit) => G2 (nI c) μ) (fun c _ => ∀ c', c' < c → q c' = false) 32
    (fun _ h => by
      refine h2 _ _ ⟨fun _ => ?_, fun z => absurd (Int32.le_refl 32) z⟩
      have : rvl τ a b = false := by
        rw [hq, List.any_eq_false]
        intro c hc
        rw [h c (List.mem_range.mp hc)]
        exact Bool.false_ne_true
      rw [this] at hK
      exact hK)
    (fun c _ hc h ih => by
      have on : q c = false → G45 (nI c) μ := by
        intro hqc
        refine h45 _ _ (fun y e => ?_)
        rw [e, nI_1]
        refine ih () (fun c' hc' => ?_)
        rcases Nat.lt_or_ge c' c with z | z
        · exact h c' z
        · rw [show c' = c by omega]; exact hqc
      refine h2 _ _ ⟨fun z => absurd z (by show ¬ nI 32 ≤ nI c; rw [q_le (by omega) (by omega)]; omega), fun _ => ⟨v_in hc (by omega), ?_⟩⟩
      rw [q_cl (by omega), h0 c hc]
      refine ⟨fun z => h28 _ _ (h29 _ _ _ ⟨fun _ => on ?_, fun w => absurd rfl w⟩), fun z => ⟨v_in hc (by omega), ?_⟩⟩
      · show (decide (suE τ a c ≠ -2) && _) = false
        rw [decide_eq_false (fun w => w z)]
        rfl
      · rw [h1 c hc]
        refine ⟨fun y => h28 _ _ (h29 _ _ _ ⟨fun _ => on ?_, fun w => absurd rfl w⟩), fun y => h29 _ _ _ ⟨fun w => absurd w (by decide), fun _ => ⟨v_in hc (by omega), v_in hc (by omega), ?_⟩⟩⟩
        · show (_ && (decide (suE τ b c ≠ -2) && _)) = false
          rw [decide_eq_false (p := suE τ b c ≠ -2) (fun w => w y)]
          simp
        · rw [q_cl (by omega), h0 c hc, h1 c hc]
          refine ⟨fun w => on ?_, fun w => ?_⟩
          · show (_ && (_ && decide (suE τ a c ≠ suE τ b c))) = false
            rw [decide_eq_false (p := suE τ a c ≠ suE τ b c) (fun v => v w)]
            simp
          · have : rvl τ a b = true := by
              rw [hq, List.any_eq_true]
              refine ⟨c, List.mem_range.mpr hc, ?_⟩
              show (decide (suE τ a c ≠ -2) && (decide (suE τ b c ≠ -2) && decide (suE τ a c ≠ suE τ b c))) = true
              rw [decide_eq_true z, decide_eq_true y, decide_eq_true w]
              rfl
            rw [this] at hK
            exact hK)
    0 () (by omega) (fun c' hc' => by omega)
theorem s_findRivals {τ : SU} (ho : okS τ) {μ : Mem} (hX : RXS μ 1 τ) {K : Mem → Prop} (hK : ∀ μ', (∀ q, q ≠ 66 → μ'.1 q = μ.1 q) → μ'.2 = μ.2 → (∀ a, a < suF τ → ∀ b, b < suF τ → bt (μ'.1 66 a) b = rvl τ a b) → K μ') : f_X1_findRivals 1 μ K := by
  intro G2 G19 G57 h2 h19 h57
  have h6 : suF τ ≤ 6 := ho.2.2.1
  exact lp_up (fun a (μ' : Mem) => G2 (nI a) μ') (fun a μ' => (∀ q, q ≠ 66 → μ'.1 q = μ.1 q) ∧ μ'.2 = μ.2 ∧ ∀ a', a' < a → ∀ b, b < suF τ → bt (μ'.1 66 a') b = rvl τ a' b) (suF τ)
    (fun μ' h => h2 _ _ ⟨fun _ => hK μ' h.1 h.2.1 h.2.2, fun c => absurd (by rw [h.1 1 (by omega), hX.2.2.1]; exact Int32.le_refl _) c⟩)
    (fun a μ' ha h ih => by
      refine h2 _ _ ⟨fun c => absurd c (by rw [h.1 1 (by omega), hX.2.2.1, q_le (by omega) (by omega)]; omega), fun _ => ⟨v_in (by omega) (by omega), fun μ3 e3 => ?_⟩⟩
      rw [q_cl (by omega)] at e3
      refine lp_up (fun b (μ2 : Mem) => G19 (nI a) (nI b) μ2) (fun b μ2 => (∀ q, q ≠ 66 → μ2.1 q = μ.1 q) ∧ μ2.2 = μ.2 ∧ (∀ a', a' < a → ∀ b, b < suF τ → bt (μ2.1 66 a') b = rvl τ a' b) ∧ ∀ b', b' < 32 → bt (μ2.1 66 a) b' = (decide (b' < b) && rvl τ a b')) (suF τ) ?_ ?_ 0 μ3 (by omega) ⟨fun q hq => by rw [e3, wI_row hq]; exact h.1 q hq, by rw [e3]; exact h.2.1, fun a' ha' b hb => by rw [e3, wI_at, if_neg (by omega)]; exact h.2.2 a' ha' b hb, fun b' hb' => by rw [e3, wI_at, if_pos ⟨rfl, rfl⟩, b_0, decide_eq_false (by omega)]; rfl⟩
      · intro μ2 h'
        refine h19 _ _ _ ⟨fun _ y e => ?_, fun c => absurd (by rw [h'.1 1 (by omega), hX.2.2.1]; exact Int32.le_refl _) c⟩
        rw [e, nI_1]
        refine ih μ2 ⟨h'.1, h'.2.1, fun a' ha' b hb => ?_⟩
        rcases Nat.lt_or_ge a' a with z | z
        · exact h'.2.2.1 a' z b hb
        · rw [show a' = a by omega, h'.2.2.2 b (by omega), decide_eq_true hb, Bool.true_and]
      · intro b μ2 hb h' ihb
        have step : ∀ μ4, (∀ q, q ≠ 66 → μ4.1 q = μ.1 q) → μ4.2 = μ.2 → (∀ a', a' < a → ∀ b, b < suF τ → bt (μ4.1 66 a') b = rvl τ a' b) → (∀ b', b' < 32 → bt (μ4.1 66 a) b' = (decide (b' < b + 1) && rvl τ a b')) → G57 (nI a) (nI b) μ4 := fun μ4 u v x y => h57 _ _ _ (fun y' e => by rw [e, nI_1]; exact ihb μ4 ⟨u, v, x, y⟩)
        refine h19 _ _ _ ⟨fun c => absurd c (by rw [h'.1 1 (by omega), hX.2.2.1, q_le (by omega) (by omega)]; omega), fun _ => ⟨v_in (by omega) (by omega), v_in (by omega) (by omega), ?_⟩⟩
        rw [q_cl (by omega), q_cl (by omega)]
        refine s_areRivals (τ := τ) (a := a) (b := b) (fun c hc => by rw [h'.1 _ (by omega)]; exact hX.E ha c hc) (fun c hc => by rw [h'.1 _ (by omega)]; exact hX.E hb c hc) ?_
        cases hr : rvl τ a b with
        | false =>
          refine t0 (step μ2 h'.1 h'.2.1 h'.2.2.1 (fun b' hb' => ?_))
          rw [h'.2.2.2 b' hb']
          by_cases z : b' = b
          · rw [z, hr]; simp
          · have : decide (b' < b + 1) = decide (b' < b) := by rw [decide_eq_decide]; omega
            rw [this]
        | true =>
          refine t1 ⟨v_in (by omega) (by omega), v_in (by omega) (by omega), fun μ13 e13 => ?_⟩
          refine step μ13 (fun q hq => by rw [e13, wI_row hq]; exact h'.1 q hq) (by rw [e13]; exact h'.2.1) (fun a' ha' b0 hb0 => by rw [e13, wI_at, if_neg (by omega)]; exact h'.2.2.1 a' ha' b0 hb0) (fun b' hb' => ?_)
          rw [e13, wI_at, if_pos ⟨rfl, rfl⟩, bt_on (by omega) hb', h'.2.2.2 b' hb']
          by_cases z : b' = b
          · rw [if_pos z, z, hr, decide_eq_true (by omega)]; rfl
          · rw [if_neg z]
            have : decide (b' < b + 1) = decide (b' < b) := by rw [decide_eq_decide]; omega
            rw [this])
    0 μ (by omega) ⟨fun _ _ => rfl, rfl, fun a' ha' => by omega⟩
/-- the priorities that count -/
def pri (τ : SU) (b : Bool) : Nat → Nat → Bool := fun f g => b && suP τ f g
theorem s_countKinds {τ : SU} (ho : okS τ) {X : Mem} (hX : RXS X 1 τ) (b : Bool) {lim : Nat} (h1 : 0 < lim) (hlim : lim ≤ 720) {K : Int32 → Mem → Prop} (hK : ∀ (N : List (Nat → Int32)) X', sX X X' → N.length ≤ lim → N.Pairwise (fun a c => ¬ alk (suK τ) c a) → (∀ B ∈ N, ∃ l, wlk (pri τ b) (rvl τ) (suO τ) none l ∧ B = mO τ l (suB τ)) → (lim ≤ N.length ∨ ∀ l, wlk (pri τ b) (rvl τ) (suO τ) none l → ∃ B ∈ N, alk (suK τ) (mO τ l (suB τ)) B) → K (nI N.length) X') : f_X1_countKinds 1 (if b then 1 else 0) (nI lim) X K := by
  intro G3 G31 h3 h31
  have h6 : suF τ ≤ 6 := ho.2.2.1
  exact lp_up (fun t (μ : Mem) => G3 (if b then 1 else 0) (nI lim) (nI t) μ) (fun t μ => (∀ q, q ≠ 65 → μ.1 q = X.1 q) ∧ ∀ f, f < t → ∀ g, g < 32 → bt (μ.1 65 f) g = pri τ b g f) 6
    (fun μ h => by
      refine h3 _ _ _ _ ⟨fun _ μ2 e2 μ3 e3 => ?_, fun c => absurd (Int32.le_refl 6) c⟩
      have el : (if (720 : Int32) < nI lim then (720 : Int32) else nI lim) = nI lim := by
        rw [if_neg]
        show ¬ nI 720 < nI lim
        rw [q_lt (by omega) (by omega)]
        omega
      rw [el] at e2
      have f3 : ∀ q, q ≠ 65 → q ≠ 49 → μ3.1 q = X.1 q := fun q a c => by rw [e3, wI_row c, e2, wI_row c]; exact h.1 q a
      have hX3 : RXS μ3 1 τ := hX.fr h6 (f3 _ (by omega) (by omega)) (f3 _ (by omega) (by omega)) (fun f hf => f3 _ (by omega) (by omega)) (f3 _ (by omega) (by omega))
      refine s_findRivals ho hX3 (fun μ5 f5 l5 r5 => ⟨v_in (a := 0) (by decide) (by decide), ?_⟩)
      show f_X5_copyRow 2 58 μ5 _
      refine s_copyRow 2 58 μ5 _ ?_
      have f8 : ∀ q, q ≠ 65 → q ≠ 49 → q ≠ 66 → q ≠ 58 → (wA μ5 58 (fun c => if c < 32 then μ5.1 2 c else μ5.1 58 c)).1 q = X.1 q := fun q a c d e => by rw [wA_ne e, f5 q d, f3 q a c]
      generalize hμ : wA μ5 58 (fun c => if c < 32 then μ5.1 2 c else μ5.1 58 c) = μ8 at f8
      have e49 : μ8.1 49 = μ3.1 49 := by rw [← hμ, wA_ne (by omega), f5 49 (by omega)]
      have hX8 : RXS μ8 1 τ := hX.fr h6 (f8 _ (by omega) (by omega) (by omega) (by omega)) (f8 _ (by omega) (by omega) (by omega) (by omega)) (fun f hf => f8 _ (by omega) (by omega) (by omega) (by omega)) (f8 _ (by omega) (by omega) (by omega) (by omega))
      have hk0 : KP (suN τ) (suK τ) lim [] μ8 := by
        refine ⟨by rw [e49, e3, wI_at, if_pos ⟨rfl, rfl⟩]; rfl, by rw [e49, e3, wI_at, if_neg (by omega), e2, wI_at, if_pos ⟨rfl, rfl⟩], hlim, by show 0 ≤ lim; omega, fun i B hB => by cases hB⟩
      have l6 := onL_le τ
      refine s_walk (P := pri τ b) (rv := rvl τ) (μb := μ8) (lim := lim) ho hX8 (fun f hf g hg => ?_) (fun a ha c hc => ?_) 8 0 (suO τ) _ none [] (suB τ) μ8 _ (on_msk ho hX8) (fun f hf => ?_) (by show 0 + (onL τ).length ≤ 6; omega) (by show (onL τ).length < 8; omega) (fun a ha => by cases ha) (fun _ _ => rfl) hk0 List.Pairwise.nil ?_ (rowA_B ho) (fun N μ' w' hP' pw' n' c' st' => ?_)
      · rw [← hμ, wA_ne (by omega), f5 65 (by omega), e3, wI_row (by omega), e2, wI_row (by omega)]
        exact h.2 f hf g hg
      · rw [← hμ, wA_ne (by omega)]
        exact r5 a ha c hc
      · rcases Nat.lt_or_ge f (suF τ) with z | z
        · exact z
        · rw [ho.2.2.2.2.2.1 f z] at hf; cases hf
      · intro c hc
        rw [← hμ, show 58 + 0 = 58 from rfl, wA_eq]
        show (if c < 32 then _ else _) = _
        rw [if_pos hc, f5 2 (by omega)]
        exact hX3.B c hc
      · rw [List.nil_append] at hP' pw' c'
        rw [hP'.1]
        refine hK N μ' ⟨fun p hp => by rw [w' p (by omega), f8 p (by omega) (by omega) (by omega) (by omega)], by rw [w' 33 (by omega), f8 33 (by omega) (by omega) (by omega) (by omega)]⟩ hP'.2.2.2.1 pw' n' c')
    (fun t μ ht h ih => by
      have step : ∀ z0, (∀ g, g < 32 → bt z0 g = pri τ b g t) → G31 (if b then 1 else 0) (nI lim) (nI t) z0 (nI t) μ := by
        intro z0 hz
        refine h31 _ _ _ _ _ _ ⟨v_in ht (by omega), fun μ14 e14 y e => ?_⟩
        rw [e, nI_1]
        rw [q_cl (by omega)] at e14
        rw [e14]
        refine ih _ ⟨fun q hq => by rw [wI_row hq]; exact h.1 q hq, fun f hf g hg => ?_⟩
        rw [wI_at]
        by_cases z : f = t
        · rw [if_pos ⟨rfl, z⟩, z]; exact hz g hg
        · rw [if_neg (by omega)]; exact h.2 f (by omega) g hg
      refine h3 _ _ _ _ ⟨fun c => absurd c (by show ¬ nI 6 ≤ nI t; rw [q_le (by omega) (by omega)]; omega), fun _ => ?_⟩
      cases hb : b with
      | false =>
        rw [hb] at step
        refine ⟨fun _ => step 0 (fun g _ => by rw [b_0]; rfl), fun c => absurd rfl c⟩
      | true =>
        rw [hb] at step
        refine ⟨fun c => absurd c (by decide), fun _ => ⟨v_in ht (by omega), ?_⟩⟩
        rw [q_cl (by omega)]
        refine step _ (fun g hg => ?_)
        rw [h.1 _ (by omega)]
        exact hX.2.2.2.2.2.2 t ht g hg)
    0 X (by omega) ⟨fun _ _ => rfl, fun f hf => by omega⟩
