theorem sgG_lt {n k : Nat} (hn : n ≤ 8) (hk : k ≤ 4) {A : Nat → Int32} (hA : rowA n A) {g : Nat → Nat} (hg : ∀ s, s < n → g s < 8) {s x : Nat} (hs : s < n) (hx : x < k) : sgG A g s x < 128 := by
  unfold sgG
  by_cases z : A (4*s+x) = -1
  · rw [if_pos z]; omega
  · rw [if_neg z]
    have r := okA_arr hn (hA (4*s+x) (by omega)) z
    have := hg _ r.2.2.1
    omega
theorem sig_eq {n k : Nat} (hn : n ≤ 8) (hk : k ≤ 4) {A : Nat → Int32} (hA : rowA n A) {g : Nat → Nat} (hg : ∀ s, s < n → g s < 8) {s t : Nat} (hs : s < n) (ht : t < n) : nI (sgN (sgG A g s) k) = nI (sgN (sgG A g t) k) ↔ ∀ x, x < k → sgG A g s x = sgG A g t x := by
  have b : ∀ u, u < n → sgN (sgG A g u) k < 2147483648 := by
    intro u hu
    have := sgN_lt (f := sgG A g u) k (fun x hx => sgG_lt hn hk hA hg hu hx)
    have : 128 ^ k ≤ 128 ^ 4 := Nat.pow_le_pow_right (by decide) hk
    have : (128 : Nat) ^ 4 = 268435456 := by decide
    omega
  rw [q_eq (b s hs) (b t ht)]
  exact ⟨fun e => sgN_inj k (fun x hx => ⟨sgG_lt hn hk hA hg hs hx, sgG_lt hn hk hA hg ht hx⟩) e, fun e => sgN_cg k e⟩
theorem sgG_iff {n k : Nat} (hn : n ≤ 8) (hk : k ≤ 4) {A : Nat → Int32} (hA : rowA n A) {g : Nat → Nat} {s t x : Nat} (hs : s < n) (ht : t < n) (hx : x < k) : sgG A g s x = sgG A g t x ↔ sk (A (4*s+x)) (A (4*t+x)) ∧ (A (4*s+x) ≠ -1 → g (cT (A (4*s+x))) = g (cT (A (4*t+x)))) := by
  unfold sgG
  by_cases z : A (4*s+x) = -1
  · by_cases y : A (4*t+x) = -1
    · rw [if_pos z, if_pos y]
      exact ⟨fun _ => ⟨Or.inl ⟨z, y⟩, fun c => absurd z c⟩, fun _ => rfl⟩
    · rw [if_pos z, if_neg y]
      refine ⟨fun e => by omega, fun e => ?_⟩
      rcases e.1 with ⟨_, q⟩ | ⟨q, _⟩
      · exact absurd q y
      · exact absurd z q
  · by_cases y : A (4*t+x) = -1
    · rw [if_neg z, if_pos y]
      refine ⟨fun e => by omega, fun e => ?_⟩
      rcases e.1 with ⟨q, _⟩ | ⟨_, q, _⟩
      · exact absurd q z
      · exact absurd y q
    · rw [if_neg z, if_neg y]
      have o1 := (okA_arr hn (hA (4*s+x) (by omega)) z).2.2.2
      have o2 := (okA_arr hn (hA (4*t+x) (by omega)) y).2.2.2
      constructor
      · intro e
        exact ⟨Or.inr ⟨z, y, by omega⟩, fun _ => by omega⟩
      · rintro ⟨e1, e2⟩
        have := e2 z
        rcases e1 with ⟨q, _⟩ | ⟨_, _, q⟩
        · exact absurd q z
        · omega
theorem s_groupStates {n k p : Nat} (h1 : 1 ≤ n) (hn : n ≤ 8) (hk : k ≤ 4) (hp : p ≠ 52 ∧ p ≠ 53) {A : Nat → Int32} (hA : rowA n A) {μ : Mem} (h0 : isRow μ p A) {K : Mem → Prop} (hK : ∀ g μ', St n k A g → (∀ s, s < n → g s < 8) → (∀ s, s < n → μ'.1 52 s = nI (g s)) → (∀ q, q ≠ 52 → q ≠ 53 → μ'.1 q = μ.1 q) → μ'.2 = μ.2 → K μ') : f_X3_groupStates p (nI n) (nI k) μ K := by
  intro G17 G31 G80 h17 h31 h80
  have tlt : ∀ s x, s < n → x < k → A (4*s+x) ≠ -1 → cT (A (4*s+x)) < n := fun s x hs hx z => (okA_arr hn (hA (4*s+x) (by omega)) z).2.2.1
  refine s_fill 52 8 0 μ _ (by omega) ?_
  let I : Nat → (Nat × Bool × (Nat → Nat) × Mem) → Prop := fun r s => Nm n s.1 s.2.2.1 ∧ (∀ a, a < n → s.2.2.2.1 52 a = nI (s.2.2.1 a)) ∧ ((∀ q, q ≠ 52 → q ≠ 53 → s.2.2.2.1 q = μ.1 q) ∧ s.2.2.2.2 = μ.2) ∧ (∀ a b, a < n → b < n → (∀ x, x < k → sgG A s.2.2.1 a x = sgG A s.2.2.1 b x) → s.2.2.1 a = s.2.2.1 b) ∧ (∀ R, Bi k A A R → ∀ a b, a < n → b < n → R a b → s.2.2.1 a = s.2.2.1 b) ∧ (s.2.1 = true → r + 1 ≤ s.1) ∧ (s.2.1 = false → ∀ a b, a < n → b < n → s.2.2.1 a = s.2.2.1 b → ∀ x, x < k → sgG A s.2.2.1 a x = sgG A s.2.2.1 b x)
  have fin : ∀ s : Nat × Bool × (Nat → Nat) × Mem, (Nm n s.1 s.2.2.1 ∧ (∀ a, a < n → s.2.2.2.1 52 a = nI (s.2.2.1 a)) ∧ ((∀ q, q ≠ 52 → q ≠ 53 → s.2.2.2.1 q = μ.1 q) ∧ s.2.2.2.2 = μ.2) ∧ (∀ R, Bi k A A R → ∀ a b, a < n → b < n → R a b → s.2.2.1 a = s.2.2.1 b) ∧ (∀ a b, a < n → b < n → s.2.2.1 a = s.2.2.1 b → ∀ x, x < k → sgG A s.2.2.1 a x = sgG A s.2.2.1 b x)) → K s.2.2.2 := by
    intro s hs
    refine hK s.2.2.1 s.2.2.2 ⟨fun a b ha hb e x hx => (sgG_iff hn hk hA ha hb hx).mp (hs.2.2.2.2 a b ha hb e x hx), hs.2.2.2.1⟩ (fun a ha => ?_) hs.2.1 hs.2.2.1.1 hs.2.2.1.2
    have := hs.1.1 a ha
    have := hs.1.2.1
    omega
  refine lp_up (fun r (s : Nat × Bool × (Nat → Nat) × Mem) => G17 (nI n) (nI k) (nI s.1) (if s.2.1 then 1 else 0) (nI r) s.2.2.2) I n ?_ ?_ 0 (1, true, (fun _ => 0), _) (by omega) ⟨⟨fun _ _ => by show 0 < 1; omega, h1, fun v hv => ⟨0, by omega, by have hv : v < 1 := hv; show 0 = v; omega⟩⟩, ?_, ⟨fun q a b => wA_ne a, rfl⟩, fun _ _ _ _ _ => rfl, fun _ _ _ _ _ _ _ => rfl, fun _ => by show 0 + 1 ≤ 1; omega, fun c => by cases c⟩
  · intro s hs
    obtain ⟨a1, a2, a3, a4, a5, a6, a7⟩ := hs
    refine h17 _ _ _ _ _ _ ⟨fun _ => ?_, fun c => absurd (Int32.le_refl _) c⟩
    cases hc : s.2.1 with
    | true =>
      have := a6 hc
      have := a1.2.1
      omega
    | false => exact fin s ⟨a1, a2, a3, a5, a7 hc⟩
  · intro r s hr hs ih
    obtain ⟨a1, a2, a3, a4, a5, a6, a7⟩ := hs
    obtain ⟨c, ch, g, μ'⟩ := s
    have a1 : Nm n c g := a1
    have a2 : ∀ a, a < n → μ'.1 52 a = nI (g a) := a2
    have a3 : (∀ q, q ≠ 52 → q ≠ 53 → μ'.1 q = μ.1 q) ∧ μ'.2 = μ.2 := a3
    have a4 : ∀ a b, a < n → b < n → (∀ x, x < k → sgG A g a x = sgG A g b x) → g a = g b := a4
    have a5 : ∀ R, Bi k A A R → ∀ a b, a < n → b < n → R a b → g a = g b := a5
    have a6 : ch = true → r + 1 ≤ c := a6
    have g8 : ∀ s, s < n → g s < 8 := fun s hs => by have := a1.1 s hs; have := a1.2.1; omega
    refine h17 _ _ _ _ _ _ ⟨fun z => absurd z (by rw [q_le (by omega) (by omega)]; omega), fun _ => ?_⟩
    cases hch : ch with
    | false =>
      refine ⟨fun _ => fin (c, ch, g, μ') ⟨a1, a2, a3, a5, a7 hch⟩, fun z => absurd rfl z⟩
    | true =>
      refine ⟨fun z => absurd z (show ¬ (1 : Int32) = 0 by decide), fun _ => ?_⟩
      have a6 := a6 hch
      have cn : c ≤ n := a1.2.1
      -- the signatures
      refine lp_up (fun i (μ2 : Mem) => G31 (nI n) (nI k) (nI c) (nI r) (nI i) μ2) (fun i μ2 => (∀ q, q ≠ 53 → μ2.1 q = μ'.1 q) ∧ μ2.2 = μ'.2 ∧ ∀ s, s < i → μ2.1 53 s = nI (sgN (sgG A g s) k)) n ?_ ?_ 0 μ' (by omega) ⟨fun _ _ => rfl, rfl, fun s hs => by omega⟩
      · intro μ2 h2
        refine h31 _ _ _ _ _ _ ⟨fun _ => ?_, fun z => absurd (Int32.le_refl _) z⟩
        refine s_group hn h2.2.2 (fun c' g' μ3 n3 e3 m3 f3 l3 => ?_)
        have c8 : c' ≤ n := n3.2.1
        have sp : ∀ s t, s < n → t < n → (g' s = g' t ↔ ∀ x, x < k → sgG A g s x = sgG A g t x) := fun s t hs ht => (e3 s t hs ht).trans (sig_eq hn hk hA g8 hs ht)
        have rf : ∀ s t, s < n → t < n → g' s = g' t → g s = g t := fun s t hs ht e => a4 s t hs ht ((sp s t hs ht).mp e)
        have common : (∀ a, a < n → μ3.1 52 a = nI (g' a)) ∧ ((∀ q, q ≠ 52 → q ≠ 53 → μ3.1 q = μ.1 q) ∧ μ3.2 = μ.2) ∧ (∀ a b, a < n → b < n → (∀ x, x < k → sgG A g' a x = sgG A g' b x) → g' a = g' b) ∧ (∀ R, Bi k A A R → ∀ a b, a < n → b < n → R a b → g' a = g' b) := by
          refine ⟨m3, ⟨fun q u v => by rw [f3 q u, h2.1 q v, a3.1 q u v], by rw [l3, h2.2.1, a3.2]⟩, ?_, ?_⟩
          · intro a b ha hb e
            rw [sp a b ha hb]
            intro x hx
            have := (sgG_iff hn hk hA ha hb hx).mp (e x hx)
            refine (sgG_iff hn hk hA ha hb hx).mpr ⟨this.1, fun z => ?_⟩
            exact rf _ _ (tlt a x ha hx z) (tlt b x hb hx (sk_ne this.1 z)) (this.2 z)
          · intro R hR a b ha hb hab
            rw [sp a b ha hb]
            intro x hx
            obtain ⟨u, v⟩ := hR a b hab x hx
            exact (sgG_iff hn hk hA ha hb hx).mpr ⟨u, fun z => a5 R hR _ _ (tlt a x ha hx z) (tlt b x hb hx (sk_ne u z)) (v z)⟩
        refine ⟨fun z => ?_, fun z => ?_⟩
        · rw [q_le (by omega) (by omega)] at z
          refine h80 _ _ _ _ _ _ (fun y e => ?_)
          rw [e, nI_1]
          refine ih (c', false, g', μ3) ⟨n3, common.1, common.2.1, common.2.2.1, common.2.2.2, fun q => (by cases q), fun _ => ?_⟩
          have same := nm_same a1 n3 rf z
          intro a b ha hb e x hx
          have e' : g' a = g' b := e
          have := (sgG_iff hn hk hA ha hb hx).mp ((sp a b ha hb).mp e' x hx)
          exact (sgG_iff hn hk hA ha hb hx).mpr ⟨this.1, fun z => same _ _ (tlt a x ha hx z) (tlt b x hb hx (sk_ne this.1 z)) (this.2 z)⟩
        · rw [q_le (by omega) (by omega)] at z
          refine h80 _ _ _ _ _ _ (fun y e => ?_)
          rw [e, nI_1]
          exact ih (c', true, g', μ3) ⟨n3, common.1, common.2.1, common.2.2.1, common.2.2.2, fun _ => by show r + 1 + 1 ≤ c'; omega, fun q => by cases q⟩
      · intro i μ2 hi h2 ihi
        refine h31 _ _ _ _ _ _ ⟨fun z => absurd z (by rw [q_le (by omega) (by omega)]; omega), fun _ => ?_⟩
        refine s_sig (n := n) (g := g) hn hk hA (fun c hc => by rw [h2.1 p hp.2, a3.1 p hp.1 hp.2]; exact h0 c hc) hi (fun x hx z => ⟨by rw [h2.1 52 (by omega)]; exact a2 _ (tlt i x hi hx z), g8 _ (tlt i x hi hx z)⟩) ⟨v_in (by omega) (by omega), fun μ12 e12 y e => ?_⟩
        rw [e, nI_1]
        rw [q_cl (by omega)] at e12
        rw [e12]
        refine ihi _ ⟨fun q hq => by rw [wI_row hq]; exact h2.1 q hq, h2.2.1, fun s hs => ?_⟩
        rw [wI_at]
        by_cases z : s = i
        · rw [if_pos ⟨rfl, z⟩, z]
        · rw [if_neg (by omega)]; exact h2.2.2 s (by omega)
  · intro a ha
    show (wA μ 52 _).1 52 a = nI 0
    rw [wA_eq]
    show (if a < 8 then (0 : Int32) else _) = _
    rw [if_pos (by omega)]
    rfl
