/-! features made, begin, slots -/
/-- the reference's row is filled anew -/
theorem s_anew (n k : Nat) (hn : n < 1000) (hk : k < 1000) (μ : Mem) (K : Mem → Prop) (hK : ∀ μ', (∀ p, p ≠ 1 → μ'.1 p = μ.1 p) → μ'.1 1 0 = nI n → μ'.1 1 1 = nI k → (∀ c, c < 32 → μ'.1 1 (2+c) = -1) → (∀ c, 34 ≤ c → c < 239 → μ'.1 1 c = 0) → K μ') : f_X6_anew (nI n) (nI k) μ K := by
  intro G2 G38 h2 h38
  have second : ∀ j s, j ≤ 32 → ((∀ p, p ≠ 1 → s.1 p = μ.1 p) ∧ s.1 1 0 = nI n ∧ s.1 1 1 = nI k ∧ (∀ c, c < j → s.1 1 (2+c) = -1) ∧ (∀ c, 34 ≤ c → c < 239 → s.1 1 c = 0)) → G38 (nI j) s := by
    intro j s hj hs
    refine lp_up (fun j (s : Mem) => G38 (nI j) s) (fun j s => (∀ p, p ≠ 1 → s.1 p = μ.1 p) ∧ s.1 1 0 = nI n ∧ s.1 1 1 = nI k ∧ (∀ c, c < j → s.1 1 (2+c) = -1) ∧ (∀ c, 34 ≤ c → c < 239 → s.1 1 c = 0)) 32 ?_ ?_ j s hj hs
    · intro s hs
      exact h38 _ _ ⟨fun _ => hK s hs.1 hs.2.1 hs.2.2.1 hs.2.2.2.1 hs.2.2.2.2, fun c => absurd (Int32.le_refl 32) c⟩
    · intro j s hj hs ih
      have hc : ¬ (32 : Int32) ≤ nI j := by
        show ¬ nI 32 ≤ nI j
        rw [q_le (by omega) (by omega)]
        omega
      have e2 : (2 + nI j : Int32) = nI (2 + j) := by show nI 2 + nI j = _; rw [nI_add]
      refine h38 _ _ ⟨fun c => absurd c hc, fun _ => ?_⟩
      rw [e2]
      refine ⟨v_in (by omega) (by omega), fun s' e y ey => ?_⟩
      rw [q_cl (by omega)] at e
      rw [ey, nI_1]
      apply ih
      subst e
      refine ⟨fun p hp => by rw [wI_row hp]; exact hs.1 p hp, by rw [wI_at, if_neg (by omega)]; exact hs.2.1, by rw [wI_at, if_neg (by omega)]; exact hs.2.2.1, fun c hc => ?_, fun c h1 h2 => by rw [wI_at, if_neg (by omega)]; exact hs.2.2.2.2 c h1 h2⟩
      rw [wI_at]
      by_cases e : c = j
      · rw [if_pos ⟨rfl, by omega⟩]
      · rw [if_neg (by omega)]; exact hs.2.2.2.1 c (by omega)
  have first : ∀ j s, j ≤ 239 → ((∀ p, p ≠ 1 → s.1 p = μ.1 p) ∧ (∀ c, c < j → s.1 1 c = 0)) → G2 (nI n) (nI k) (nI j) s := by
    intro j s hj hs
    refine lp_up (fun j (s : Mem) => G2 (nI n) (nI k) (nI j) s) (fun j s => (∀ p, p ≠ 1 → s.1 p = μ.1 p) ∧ (∀ c, c < j → s.1 1 c = 0)) 239 ?_ ?_ j s hj hs
    · intro s hs
      refine h2 _ _ _ _ ⟨fun _ => ⟨v_in (a := 0) (by decide) (by decide), fun s3 e3 => ⟨v_in (a := 1) (by decide) (by decide), fun s5 e5 => ?_⟩⟩, fun c => absurd (Int32.le_refl 239) c⟩
      have e3 : s3 = wI s 1 0 (nI n) := e3
      have e5 : s5 = wI s3 1 1 (nI k) := e5
      refine second 0 s5 (by omega) ?_
      subst e5; subst e3
      refine ⟨fun p hp => by rw [wI_row hp, wI_row hp]; exact hs.1 p hp, by rw [wI_at, if_neg (by omega), wI_at, if_pos ⟨rfl, rfl⟩], by rw [wI_at, if_pos ⟨rfl, rfl⟩], fun c hc => absurd hc (by omega), fun c h1 h2 => by rw [wI_at, if_neg (by omega), wI_at, if_neg (by omega)]; exact hs.2 c h2⟩
    · intro j s hj hs ih
      have hc : ¬ (239 : Int32) ≤ nI j := by
        show ¬ nI 239 ≤ nI j
        rw [q_le (by omega) (by omega)]
        omega
      refine h2 _ _ _ _ ⟨fun c => absurd c hc, fun _ => ⟨v_in hj (by omega), fun s' e y ey => ?_⟩⟩
      rw [q_cl (by omega)] at e
      rw [ey, nI_1]
      apply ih
      subst e
      refine ⟨fun p hp => by rw [wI_row hp]; exact hs.1 p hp, fun c hc => ?_⟩
      rw [wI_at]
      by_cases e : c = j
      · rw [if_pos ⟨rfl, e⟩]
      · rw [if_neg (fun z => e z.2)]; exact hs.2 c (by omega)
  exact first 0 μ (by omega) ⟨fun _ _ => rfl, fun c hc => absurd hc (by omega)⟩
/-- a fresh setup -/
def su0 (n k : Nat) : SU := ((n, k, 0), fun _ => -1, fun _ _ => -2, fun _ => false, fun _ _ => false)
theorem ok0 {n k : Nat} (hn : 1 ≤ n ∧ n ≤ 8) (hk : 1 ≤ k ∧ k ≤ 4) : okS (su0 n k) := ⟨hn, hk, Nat.zero_le 6, fun _ _ => Or.inl rfl, fun f hf => absurd hf (Nat.not_lt_zero f), fun _ _ => rfl, fun _ _ h => absurd h Bool.false_ne_true, fun _ _ _ h => absurd h Bool.false_ne_true, fun _ => rfl⟩
theorem rch_none {n f g : Nat} : ¬ rch (fun _ _ => false) n f g := by
  cases n with
  | zero => intro h; cases h
  | succ n => intro ⟨_, h, _⟩; cases h
theorem M0 {M : Mem} {n k : Nat} (h0 : M.1 1 0 = nI n) (h1 : M.1 1 1 = nI k) (h2 : ∀ c, c < 32 → M.1 1 (2+c) = -1) (h3 : ∀ c, 34 ≤ c → c < 239 → M.1 1 c = 0) : RMS M 1 0 (su0 n k) := by
  refine ⟨h0, h1, h3 34 (by omega) (by omega), fun c hc => ?_, fun f hf => absurd hf (Nat.not_lt_zero f), fun f hf => absurd hf (Nat.not_lt_zero f), fun _ _ => false, fun f hf => absurd hf (Nat.not_lt_zero f), fun _ _ h => absurd h Bool.false_ne_true, fun f g => ⟨fun h => absurd h Bool.false_ne_true, fun ⟨n, h⟩ => absurd h rch_none⟩⟩
  rw [Nat.zero_add]
  exact h2 c hc
theorem in18 (x : Int32) : (¬ x < 1 ∧ ¬ 8 < x) ↔ ∃ n, (1 ≤ n ∧ n ≤ 8) ∧ x = nI n := by
  have e1 : (1 : Int32).toInt = 1 := by decide
  have e8 : (8 : Int32).toInt = 8 := by decide
  constructor
  · intro ⟨a, b⟩
    rw [Int32.lt_iff_toInt_lt, e1] at a
    rw [Int32.lt_iff_toInt_lt, e8] at b
    refine ⟨x.toInt.toNat, by omega, ?_⟩
    apply Int32.toInt_inj.mp
    rw [nI_toInt (by omega)]
    omega
  · intro ⟨n, hn, e⟩
    subst e
    rw [Int32.lt_iff_toInt_lt, Int32.lt_iff_toInt_lt, e1, e8, nI_toInt (by omega)]
    omega
theorem in14 (x : Int32) : (¬ x < 1 ∧ ¬ 4 < x) ↔ ∃ n, (1 ≤ n ∧ n ≤ 4) ∧ x = nI n := by
  have e1 : (1 : Int32).toInt = 1 := by decide
  have e8 : (4 : Int32).toInt = 4 := by decide
  constructor
  · intro ⟨a, b⟩
    rw [Int32.lt_iff_toInt_lt, e1] at a
    rw [Int32.lt_iff_toInt_lt, e8] at b
    refine ⟨x.toInt.toNat, by omega, ?_⟩
    apply Int32.toInt_inj.mp
    rw [nI_toInt (by omega)]
    omega
  · intro ⟨n, hn, e⟩
    subst e
    rw [Int32.lt_iff_toInt_lt, Int32.lt_iff_toInt_lt, e1, e8, nI_toInt (by omega)]
    omega
theorem p_begin : LS_begin RR := by
  intro X M a1 a2 h
  obtain ⟨τ, h1, h2, h3, h4⟩ := id h
  have bad : ¬ ((¬ a1 < 1 ∧ ¬ 8 < a1) ∧ (¬ a2 < 1 ∧ ¬ 4 < a2)) → f_X6_begin a1 a2 M (fun r2 M1 => (-2 : Int32) = r2 ∧ RR X M1) := by
    intro q
    refine s_in (fun c1 c2 => t1 ?_) (fun _ => t0 ⟨rfl, h⟩)
    exact s_in (fun d1 d2 => absurd ⟨⟨c1, c2⟩, d1, d2⟩ q) (fun _ => u0 ⟨rfl, h⟩)
  refine ⟨fun c => bad (fun q => q.1.1 c), fun c1 => ⟨fun c => bad (fun q => q.1.2 c), fun c2 => ⟨fun c => bad (fun q => q.2.1 c), fun d1 => ⟨fun d2 => ?_, fun c => bad (fun q => c (Int32.not_lt.mp q.2.2))⟩⟩⟩⟩
  have d2' : ¬ 4 < a2 := Int32.not_lt.mpr d2
  obtain ⟨n, hn, rfl⟩ := (in18 a1).mp ⟨c1, c2⟩
  obtain ⟨k, hk, rfl⟩ := (in14 a2).mp ⟨d1, d2'⟩
  intro y5 e5
  intro X1 e1 X2 e2 X3 e3 X4 e4
  refine s_fill _ _ _ _ _ (by decide) (s_fill _ _ _ _ _ (by decide) ?_)
  intro X8 e8
  refine s_in (fun _ _ => t1 ?_) (fun c => absurd c (fun z => z.elim c1 c2))
  refine s_in (fun _ _ => u1 ?_) (fun c => absurd c (fun z => z.elim d1 d2'))
  refine ⟨v_in (a := 0) (by decide) (by decide), v_in (a := 1) (by decide) (by decide), fun y9 e9 => ?_⟩
  refine s_anew n k (by omega) (by omega) M _ (fun M1 g1 g2 g3 g4 g5 => ?_)
  intro M2 eM2
  have e9 : y9 = 10 * M.1 1 0 + M.1 1 1 := e9
  refine ⟨by rw [e5, e9, h1.2.1.1, h1.2.1.2.1, h1.2.2.1, h1.2.2.2.1], su0 n k, ⟨ok0 hn hk, ?_, M0 ?_ ?_ ?_ ?_⟩, ⟨0, fun _ => 0, by omega, ?_, ?_, fun i hi => absurd hi (by omega)⟩, ?_, ?_⟩
  · subst e8; subst e4; subst e3; subst e2; subst e1
    refine ⟨?_, ?_, ?_, fun f hf => ?_, fun c hc => ?_, fun f hf => absurd hf (Nat.not_lt_zero f), fun g hg f hf => ?_⟩
    · rw [wI_row (by omega), wA_ne (by omega), wA_ne (by omega), wI_at, if_neg (by omega), wI_at, if_neg (by omega), wI_at, if_neg (by omega), wI_at, if_pos ⟨rfl, rfl⟩]; rfl
    · rw [wI_row (by omega), wA_ne (by omega), wA_ne (by omega), wI_at, if_neg (by omega), wI_at, if_neg (by omega), wI_at, if_pos ⟨rfl, rfl⟩]; rfl
    · rw [wI_row (by omega), wA_ne (by omega), wA_ne (by omega), wI_at, if_neg (by omega), wI_at, if_pos ⟨rfl, rfl⟩]; rfl
    · rw [wI_row (by omega), wA_ne (by omega), wA_ne (by omega), wI_at, if_pos ⟨rfl, rfl⟩, b_0]; rfl
    · rw [wI_row (by omega), wA_ne (by omega), wA_eq, if_pos hc]; rfl
    · rw [wI_row (by omega), wA_eq, if_pos hg, b_0]; rfl
  · rw [eM2, wI_row (by omega)]; exact g2
  · rw [eM2, wI_row (by omega)]; exact g3
  · intro c hc; rw [eM2, wI_row (by omega)]; exact g4 c hc
  · intro c a b; rw [eM2, wI_row (by omega)]; exact g5 c a b
  · rw [e8, wI_at, if_pos ⟨rfl, rfl⟩]; rfl
  · rw [eM2, wI_at, if_pos ⟨rfl, rfl⟩]; rfl
  · exact h3.fr (fun p a b => by rw [e8, wI_row (by omega), wA_ne (by omega), wA_ne (by omega), e4, wI_row (by omega), e3, wI_row (by omega), e2, wI_row (by omega), e1, wI_row (by omega)]) (by rw [eM2, wI_row (by omega), g1 2 (by omega)]) (by rw [eM2, wI_row (by omega), g1 3 (by omega)])
  · have fX : ∀ p, 11 ≤ p → X8.1 p = X.1 p := fun p a => by rw [e8, wI_row (by omega), wA_ne (by omega), wA_ne (by omega), e4, wI_row (by omega), e3, wI_row (by omega), e2, wI_row (by omega), e1, wI_row (by omega)]
    exact h4.fr (by rw [fX 33 (by omega)]) (fX 34 (by omega)) (by rw [eM2, wI_at, if_neg (by omega), g1 0 (by omega)]) (by rw [eM2, wI_row (by omega), g1 5 (by omega)])
theorem s_clears {f : Nat} (hf : f < 6) {μ : Mem} {K : Mem → Prop} (hK : ∀ μ', (∀ p, p ≠ 1 → μ'.1 p = μ.1 p) → (∀ c, c < 32 → μ'.1 1 (35+34*f+1+c) = -1) → (∀ i, (i < 35+34*f+1 ∨ 35+34*f+33 ≤ i) → μ'.1 1 i = μ.1 1 i) → K μ') : f_X6_clears (nI f) μ K := by
  intro G2 h2
  refine lp_up (fun j (s : Mem) => G2 (nI f) (nI j) s) (fun j s => (∀ p, p ≠ 1 → s.1 p = μ.1 p) ∧ (∀ c, c < j → s.1 1 (35+34*f+1+c) = -1) ∧ (∀ i, (i < 35+34*f+1 ∨ 35+34*f+33 ≤ i) → s.1 1 i = μ.1 1 i)) 32 ?_ ?_ 0 μ (by omega) ⟨fun _ _ => rfl, fun c hc => absurd hc (by omega), fun _ _ => rfl⟩
  · intro s hs
    exact h2 _ _ _ ⟨fun _ => hK s hs.1 hs.2.1 hs.2.2, fun c => absurd (Int32.le_refl 32) c⟩
  · intro j s hj hs ih
    have hc : ¬ (32 : Int32) ≤ nI j := by
      show ¬ nI 32 ≤ nI j
      rw [q_le (by omega) (by omega)]
      omega
    refine h2 _ _ _ ⟨fun c => absurd c hc, fun _ => ?_⟩
    unfold f_X6_at
    have e1 : (1 + nI j : Int32) = nI (1 + j) := by show nI 1 + nI j = _; rw [nI_add]
    rw [e1, at_eq]
    refine ⟨v_in (by omega) (by omega), fun s' e y ey => ?_⟩
    rw [q_cl (by omega)] at e
    rw [ey, nI_1]
    apply ih
    subst e
    refine ⟨fun p hp => by rw [wI_row hp]; exact hs.1 p hp, fun c hc => ?_, fun i hi => by rw [wI_at, if_neg (by omega)]; exact hs.2.2 i hi⟩
    rw [wI_at]
    by_cases e : c = j
    · rw [if_pos ⟨rfl, by omega⟩]
    · rw [if_neg (by omega)]; exact hs.2.1 c (by omega)
/-- a feature more -/
def suA (τ : SU) : SU := ((suN τ, suK τ, suF τ + 1), suB τ, fun f c => if f = suF τ then -2 else suE τ f c, fun f => if f = suF τ then true else suO τ f, suP τ)
theorem okS_A {τ : SU} (h : okS τ) (hf : suF τ < 6) : okS (suA τ) := by
  refine ⟨h.1, h.2.1, hf, h.2.2.2.1, fun f hf c hc => ?_, fun f hf => ?_, fun f g hp => ?_, h.2.2.2.2.2.2.2⟩
  · show okE (suN τ) (if f = suF τ then -2 else suE τ f c)
    have hf : f < suF τ + 1 := hf
    by_cases e : f = suF τ
    · rw [if_pos e]; exact Or.inl rfl
    · rw [if_neg e]; exact h.2.2.2.2.1 f (by omega) c hc
  · show (if f = suF τ then true else suO τ f) = false
    have hf : suF τ + 1 ≤ f := hf
    rw [if_neg (by omega)]
    exact h.2.2.2.2.2.1 f (by omega)
  · have := h.2.2.2.2.2.2.1 f g hp
    exact ⟨Nat.lt_succ_of_lt this.1, Nat.lt_succ_of_lt this.2⟩
theorem p_addFeature : LS_addFeature RR := by
  intro X M h
  obtain ⟨τ, h1, h2, h3, h4⟩ := id h
  have h6 := h1.1.2.2.1
  have eX : X.1 1 2 = nI (suF τ) := h1.2.1.2.2.1
  have eMf : M.1 1 34 = nI (suF τ) := h1.2.2.2.2.1
  have e6 : (6 : Int32) = nI 6 := rfl
  unfold f_X5_addFeature
  rw [eX, e6, q_lt (by omega) (by omega)]
  have i34 : ((34 : Int32).toNatClampNeg) = 34 := by decide
  refine ⟨fun c => ?_, fun c => ?_⟩
  · intro y1 ey1
    rw [eX] at ey1
    subst ey1
    refine ⟨v_in c (by omega), s_fill _ _ _ _ _ (by decide) ?_⟩
    refine ⟨fun z => absurd z (by decide), fun _ X6 eX6 X7 eX7 => ?_⟩
    rw [q_cl (by omega)] at eX6
    refine ⟨v_in (a := 34) (by decide) (by decide), ?_⟩
    rw [i34, eMf, e6, q_eq (by omega) (by omega)]
    refine ⟨fun _ => ⟨v_in (a := 34) (by decide) (by decide), fun y4 ey4 => ?_⟩, fun z => absurd z (by omega)⟩
    subst ey4
    have ei0 : (35 + 34 * nI (suF τ) + 0 : Int32) = nI (35 + 34 * suF τ) := at_eq (suF τ) 0
    have ei33 : (35 + 34 * nI (suF τ) + 33 : Int32) = nI (35 + 34 * suF τ + 33) := at_eq (suF τ) 33
    show vp_in (35 + 34 * nI (suF τ) + 0) 239 ∧ _
    rw [ei0]
    refine ⟨v_in (by omega) (by omega), fun M8 eM8 => ?_⟩
    show vp_in (35 + 34 * nI (suF τ) + 33) 239 ∧ _
    rw [ei33]
    refine ⟨v_in (by omega) (by omega), fun M12 eM12 => ?_⟩
    rw [q_cl (by omega)] at eM8 eM12
    refine s_clears (by omega) (fun M14 g1 g2 g3 => ?_)
    refine ⟨v_in (a := 34) (by decide) (by decide), v_in (a := 34) (by decide) (by decide), fun M17 eM17 => ?_⟩
    have m14 : ∀ i, (i < 35 + 34 * suF τ) → M14.1 1 i = M.1 1 i := fun i hi => by
      rw [g3 i (by omega), eM12, wI_at, if_neg (by omega), eM8, wI_at, if_neg (by omega)]
    have mon : M14.1 1 (35 + 34 * suF τ) = 1 := by
      rw [g3 _ (by omega), eM12, wI_at, if_neg (by omega), eM8, wI_at, if_pos ⟨rfl, rfl⟩]
    have mah : M14.1 1 (35 + 34 * suF τ + 33) = 0 := by
      rw [g3 _ (by omega), eM12, wI_at, if_pos ⟨rfl, rfl⟩]
    have fX : ∀ p, p = 0 ∨ 11 ≤ p → X7.1 p = X.1 p := fun p hp => by
      rw [eX7, wI_row (by omega), eX6, wI_row (by omega), wA_ne (by omega)]
    have fM : ∀ p, p ≠ 1 → M17.1 p = M.1 p := fun p hp => by
      rw [eM17, wI_row hp, g1 p hp, eM12, wI_row hp, eM8, wI_row hp]
    refine ⟨rfl, RR_of (τ' := suA τ) h2 h3 h4 ⟨okS_A h1.1 c, ?_, ?_⟩ rfl fX fM⟩
    · obtain ⟨a0, a1, a2, a3, a4, a5, a6⟩ := h1.2.1
      have xf : X6.1 1 2 = nI (suF τ) := by rw [eX6, wI_at, if_neg (by omega), wA_ne (by omega)]; exact eX
      refine ⟨?_, ?_, ?_, fun f hf => ?_, fun d hd => ?_, fun f hf d hd => ?_, fun g hg f hf => ?_⟩
      · rw [eX7, wI_at, if_neg (by omega), eX6, wI_at, if_neg (by omega), wA_ne (by omega)]; exact a0
      · rw [eX7, wI_at, if_neg (by omega), eX6, wI_at, if_neg (by omega), wA_ne (by omega)]; exact a1
      · rw [eX7, wI_at, if_pos ⟨rfl, rfl⟩, xf, nI_1]; rfl
      · rw [eX7, wI_at, if_neg (by omega), eX6, wI_at, if_pos ⟨rfl, rfl⟩, bt_on (by omega) hf, wA_ne (by omega), a3 f hf]; rfl
      · rw [eX7, wI_row (by omega), eX6, wI_row (by omega), wA_ne (by omega)]; exact a4 d hd
      · have hf : f < suF τ + 1 := hf
        show _ = if f = suF τ then -2 else suE τ f d
        rw [eX7, wI_row (by omega), eX6, wI_row (by omega)]
        by_cases e : f = suF τ
        · rw [if_pos e, e, wA_eq, if_pos hd]
        · rw [if_neg e, wA_ne (by omega)]; exact a5 f (by omega) d hd
      · rw [eX7, wI_row (by omega), eX6, wI_row (by omega), wA_ne (by omega)]; exact a6 g hg f hf
    · obtain ⟨a0, a1, a2, a3, a4, a5, told, a6, a7, a8⟩ := h1.2.2
      have r : ∀ i, i ≠ 34 → M17.1 1 i = M14.1 1 i := fun i hi => by rw [eM17, wI_at, if_neg (by omega)]
      refine ⟨?_, ?_, ?_, fun d hd => ?_, fun f hf => ?_, fun f hf d hd => ?_, told, fun f hf g hg => ?_, fun f g hp => ?_, a8⟩
      · rw [r _ (by omega), m14 _ (by omega)]; exact a0
      · rw [r _ (by omega), m14 _ (by omega)]; exact a1
      · rw [Nat.zero_add, eM17, wI_at, if_pos ⟨rfl, rfl⟩, m14 _ (by omega), eMf, nI_1]; rfl
      · rw [r _ (by omega), m14 _ (by omega)]; exact a3 d hd
      · have hf : f < suF τ + 1 := hf
        show _ = if (if f = suF τ then true else suO τ f) then 1 else 0
        rw [r _ (by omega)]
        by_cases e : f = suF τ
        · rw [if_pos e, e, Nat.zero_add, mon]; rfl
        · rw [if_neg e, m14 _ (by omega)]; exact a4 f (by omega)
      · have hf : f < suF τ + 1 := hf
        show _ = encM (if f = suF τ then -2 else suE τ f d)
        rw [r _ (by omega)]
        by_cases e : f = suF τ
        · rw [if_pos e, e, Nat.zero_add, g2 d hd]; rfl
        · rw [if_neg e, m14 _ (by omega)]; exact a5 f (by omega) d hd
      · have hf : f < suF τ + 1 := hf
        rw [r _ (by omega)]
        by_cases e : f = suF τ
        · rw [e, Nat.zero_add, mah, b_0]
          cases ht : told (suF τ) g
          · rfl
          · exact absurd (a7 _ _ ht).1 (by omega)
        · rw [m14 _ (by omega)]; exact a6 f (by omega) g hg
      · exact ⟨Nat.lt_succ_of_lt (a7 f g hp).1, Nat.lt_succ_of_lt (a7 f g hp).2⟩
  · refine ⟨v_in (a := 34) (by decide) (by decide), ?_⟩
    rw [i34, eMf, e6, q_eq (by omega) (by omega)]
    exact ⟨fun z => absurd (by omega) z, fun _ => ⟨rfl, h⟩⟩
