/-! slots, and the start -/
theorem s_isSlot {x : Int32} {μ : Mem} {K : Int32 → Mem → Prop} (h1 : inR x 2 → K 1 μ) (h0 : ¬ inR x 2 → K 0 μ) : f_X5_isSlot x μ K :=
  ⟨fun c => h0 (fun q => (inR_lt (by decide) q).1 c), fun c => ⟨fun d => h0 (fun q => (inR_lt (by decide) q).2.1 d), fun d => h1 ((inR_iff (by decide)).mpr ⟨c, d⟩)⟩⟩
theorem s_in01 {x : Int32} {μ : Mem} {K : Int32 → Mem → Prop} (h1 : inR x 2 → K 1 μ) (h0 : ¬ inR x 2 → K 0 μ) : f_X6_in x 0 1 μ K := s_inR (n := 2) (by decide) h1 h0
/-- a setup is copied -/
theorem s_copyFrom {B O : Nat} (hd : O + 9 < B ∨ B + 9 < O) {X : Mem} {K : Mem → Prop} (hK : ∀ X', (∀ p, p < B ∨ B + 9 < p → X'.1 p = X.1 p) → (X'.1 B 0 = X.1 O 0 ∧ X'.1 B 1 = X.1 O 1 ∧ X'.1 B 2 = X.1 O 2 ∧ X'.1 B 3 = X.1 O 3) → (∀ c, c < 32 → X'.1 (B+1) c = X.1 (O+1) c) → (∀ f, f < 6 → ∀ c, c < 32 → X'.1 (B+3+f) c = X.1 (O+3+f) c) → (∀ f, f < 6 → X'.1 (B+9) f = X.1 (O+9) f) → K X') : f_X2_copyFrom B O X K := by
  intro G45 h45 X1 e1 X2 e2 X3 e3 X4 e4
  refine s_copyRow _ _ _ _ ?_
  have key := lp_up (fun j (s : Mem) => G45 (nI j) s) (fun j s => (∀ p, p < B ∨ B + 9 < p → s.1 p = X.1 p) ∧ (s.1 B 0 = X.1 O 0 ∧ s.1 B 1 = X.1 O 1 ∧ s.1 B 2 = X.1 O 2 ∧ s.1 B 3 = X.1 O 3) ∧ (∀ c, c < 32 → s.1 (B+1) c = X.1 (O+1) c) ∧ (∀ f, f < j → ∀ c, c < 32 → s.1 (B+3+f) c = X.1 (O+3+f) c) ∧ (∀ f, f < j → s.1 (B+9) f = X.1 (O+9) f)) 6 ?_ ?_ 0
  · refine key _ (by omega) ?_
    have o : ∀ Y : Mem, ∀ k v, (wI Y B k v).1 O = Y.1 O := fun Y k v => wI_row (by omega)
    subst e4; subst e3; subst e2; subst e1
    refine ⟨fun p hp => ?_, ⟨?_, ?_, ?_, ?_⟩, fun c hc => ?_, fun f hf => absurd hf (by omega), fun f hf => absurd hf (by omega)⟩
    · rw [wA_ne (by omega), wI_row (by omega), wI_row (by omega), wI_row (by omega), wI_row (by omega)]
    · rw [wA_ne (by omega), wI_at, if_neg (by omega), wI_at, if_neg (by omega), wI_at, if_neg (by omega), wI_at, if_pos ⟨rfl, rfl⟩]
    · rw [wA_ne (by omega), wI_at, if_neg (by omega), wI_at, if_neg (by omega), wI_at, if_pos ⟨rfl, rfl⟩, o]
    · rw [wA_ne (by omega), wI_at, if_neg (by omega), wI_at, if_pos ⟨rfl, rfl⟩, o, o]
    · rw [wA_ne (by omega), wI_at, if_pos ⟨rfl, rfl⟩, o, o, o]
    · rw [wA_eq, if_pos hc, wI_row (by omega), wI_row (by omega), wI_row (by omega), wI_row (by omega)]
  · intro s hs
    exact h45 _ _ ⟨fun _ => hK s hs.1 hs.2.1 hs.2.2.1 hs.2.2.2.1 hs.2.2.2.2, fun c => absurd (Int32.le_refl 6) c⟩
  · intro j s hj hs ih
    have hc : ¬ (6 : Int32) ≤ nI j := by
      show ¬ nI 6 ≤ nI j
      rw [q_le (by omega) (by omega)]
      omega
    have hi : vp_in (nI j) 6 := v_in hj (by omega)
    refine h45 _ _ ⟨fun c => absurd c hc, fun _ => ⟨hi, hi, s_copyRow _ _ _ _ ⟨hi, hi, fun s2 e y ey => ?_⟩⟩⟩
    rw [ey, nI_1]
    apply ih
    rw [q_cl (by omega)] at e
    obtain ⟨a1, ⟨b0, b1, b2, b3⟩, a3, a4, a5⟩ := hs
    subst e
    refine ⟨fun p hp => ?_, ⟨?_, ?_, ?_, ?_⟩, fun c hc => ?_, fun f hf c hc => ?_, fun f hf => ?_⟩
    · rw [wI_row (by omega), wA_ne (by omega)]; exact a1 p hp
    · rw [wI_row (by omega), wA_ne (by omega)]; exact b0
    · rw [wI_row (by omega), wA_ne (by omega)]; exact b1
    · rw [wI_row (by omega), wA_ne (by omega)]; exact b2
    · rw [wI_row (by omega), wA_ne (by omega)]; exact b3
    · rw [wI_row (by omega), wA_ne (by omega)]; exact a3 c hc
    · rw [wI_row (by omega)]
      by_cases e : f = j
      · rw [e, wA_eq, if_pos hc, a1 _ (by omega)]
      · rw [wA_ne (by omega)]; exact a4 f (by omega) c hc
    · rw [wI_at, wA_ne (by omega), wA_ne (by omega)]
      by_cases e : f = j
      · rw [if_pos ⟨rfl, e⟩, a1 _ (by omega), e]
      · rw [if_neg (fun z => e z.2)]; exact a5 f (by omega)
theorem RXS_copy {X X' : Mem} {B O : Nat} {τ : SU} (h : RXS X O τ) (h6 : suF τ ≤ 6) (g1 : X'.1 B 0 = X.1 O 0 ∧ X'.1 B 1 = X.1 O 1 ∧ X'.1 B 2 = X.1 O 2 ∧ X'.1 B 3 = X.1 O 3) (g2 : ∀ c, c < 32 → X'.1 (B+1) c = X.1 (O+1) c) (g3 : ∀ f, f < 6 → ∀ c, c < 32 → X'.1 (B+3+f) c = X.1 (O+3+f) c) (g4 : ∀ f, f < 6 → X'.1 (B+9) f = X.1 (O+9) f) : RXS X' B τ := by
  obtain ⟨a0, a1, a2, a3, a4, a5, a6⟩ := h
  exact ⟨by rw [g1.1]; exact a0, by rw [g1.2.1]; exact a1, by rw [g1.2.2.1]; exact a2, fun f hf => by rw [g1.2.2.2]; exact a3 f hf, fun c hc => by rw [g2 c hc]; exact a4 c hc, fun f hf c hc => by rw [g3 f (by omega) c hc]; exact a5 f hf c hc, fun g hg f hf => by rw [g4 g hg]; exact a6 g hg f hf⟩
theorem RMS_copy {M M' : Mem} {p o p' o' : Nat} {τ : SU} (h : RMS M p o τ) (h6 : suF τ ≤ 6) (e : ∀ i, i < 239 → M'.1 p' (o' + i) = M.1 p (o + i)) : RMS M' p' o' τ := by
  obtain ⟨a0, a1, a2, a3, a4, a5, told, a6, a7, a8⟩ := h
  refine ⟨?_, by rw [e 1 (by omega)]; exact a1, by rw [e 34 (by omega)]; exact a2, fun c hc => ?_, fun f hf => ?_, fun f hf c hc => ?_, told, fun f hf g hg => ?_, a7, a8⟩
  · have := e 0 (by omega)
    rw [Nat.add_zero, Nat.add_zero] at this
    rw [this]; exact a0
  · have := e (2 + c) (by omega)
    rw [← Nat.add_assoc, ← Nat.add_assoc] at this
    rw [this]; exact a3 c hc
  · have := e (35 + 34 * f) (by omega)
    rw [← Nat.add_assoc, ← Nat.add_assoc] at this
    rw [this]; exact a4 f hf
  · have := e (35 + 34 * f + 1 + c) (by omega)
    rw [show o' + (35 + 34 * f + 1 + c) = o' + 35 + 34 * f + 1 + c by omega, show o + (35 + 34 * f + 1 + c) = o + 35 + 34 * f + 1 + c by omega] at this
    rw [this]; exact a5 f hf c hc
  · have := e (35 + 34 * f + 33) (by omega)
    rw [show o' + (35 + 34 * f + 33) = o' + 35 + 34 * f + 33 by omega, show o + (35 + 34 * f + 33) = o + 35 + 34 * f + 33 by omega] at this
    rw [this]; exact a6 f hf g hg
theorem sl_eq (z j : Nat) : (239 * nI z + nI j : Int32) = nI (239 * z + j) := by
  show nI 239 * nI z + nI j = _
  rw [pk_mul, nI_add]
theorem p_save : LS_save RR := by
  intro X M a1 h
  obtain ⟨τ, h1, h2, h3, h4⟩ := id h
  have h6 := h1.1.2.2.1
  refine s_isSlot (fun q => u1 ?_) (fun q => u0 ?_)
  · obtain ⟨z, hz, rfl⟩ := id q
    refine ⟨v_in hz (by omega), ?_⟩
    rw [q_cl (by omega)]
    refine s_copyFrom (by omega) (fun X1 g1 g2 g3 g4 g5 => ?_)
    refine ⟨v_in hz (by omega), fun X2 eX2 => ?_⟩
    intro G13 h13
    refine s_in01 (fun _ => u1 ?_) (fun c => absurd q c)
    refine lp_up (fun j (s : Mem) => G13 (nI z) (nI j) s) (fun j s => (∀ p, p ≠ 2 → s.1 p = M.1 p) ∧ (∀ i, i < j → s.1 2 (239 * z + i) = M.1 1 i) ∧ (∀ i, (i < 239 * z ∨ 239 * z + 239 ≤ i) → s.1 2 i = M.1 2 i)) 239 ?_ ?_ 0 M (by omega) ⟨fun _ _ => rfl, fun i hi => absurd hi (by omega), fun _ _ => rfl⟩
    · intro s ⟨s1, s2, s3⟩
      refine h13 _ _ _ ⟨fun _ => ⟨v_in hz (by omega), fun M2 eM2 => ⟨v_in (a := 34) (by decide) (by decide), ?_⟩⟩, fun c => absurd (Int32.le_refl 239) c⟩
      rw [q_cl (by omega)] at eM2
      have fX : ∀ p, p ≠ 32 → (p < 12 + 10 * z ∨ 12 + 10 * z + 9 < p) → X2.1 p = X.1 p := fun p a b => by rw [eX2, wI_row a]; exact g1 p b
      have fM : ∀ p, p ≠ 2 → p ≠ 3 → M2.1 p = M.1 p := fun p a b => by rw [eM2, wI_row b]; exact s1 p a
      have i34 : ((34 : Int32).toNatClampNeg) = 34 := by decide
      refine ⟨?_, τ, h1.fr1 (fun p a b => fX p (by omega) (by omega)) (fM 1 (by omega) (by omega)), h2.fr (by rw [fX 0 (by omega) (by omega)]) (fX 36 (by omega) (by omega)) (by rw [fM 0 (by omega) (by omega)]) (fM 4 (by omega) (by omega)), ?_, h4.fr (by rw [fX 33 (by omega) (by omega)]) (fX 34 (by omega) (by omega)) (by rw [fM 0 (by omega) (by omega)]) (fM 5 (by omega) (by omega))⟩
      · rw [i34, fX 1 (by omega) (by omega), fM 1 (by omega) (by omega), h1.2.1.2.2.1]
        exact h1.2.2.2.2.1.symm
      · intro y hy
        by_cases e : y = z
        · subst e
          refine Or.inr ⟨?_, ?_, τ, h1.1, ?_, ?_⟩
          · rw [eX2, wI_at, if_pos ⟨rfl, rfl⟩]; rfl
          · rw [eM2, wI_at, if_pos ⟨rfl, rfl⟩]; rfl
          · have : RXS X1 (12 + 10 * y) τ := RXS_copy h1.2.1 h6 g2 g3 g4 g5
            exact this.fr h6 (by rw [eX2, wI_row (by omega)]) (by rw [eX2, wI_row (by omega)]) (fun f hf => by rw [eX2, wI_row (by omega)]) (by rw [eX2, wI_row (by omega)])
          · refine RMS_copy h1.2.2 h6 (fun i hi => ?_)
            rw [eM2, wI_row (by omega), s2 i hi, Nat.zero_add]
        · rcases h3 y hy with ⟨w1, w2⟩ | ⟨w1, w2, τ', w3, w4, w5⟩
          · refine Or.inl ⟨?_, ?_⟩
            · rw [eX2, wI_at, if_neg (fun z => e z.2), g1 32 (by omega)]; exact w1
            · rw [eM2, wI_at, if_neg (fun z => e z.2), s1 3 (by omega)]; exact w2
          · refine Or.inr ⟨?_, ?_, τ', w3, w4.fr w3.2.2.1 (fX _ (by omega) (by omega)) (fX _ (by omega) (by omega)) (fun f hf => fX _ (by omega) (by omega)) (fX _ (by omega) (by omega)), RMS_copy w5 w3.2.2.1 (fun i hi => ?_)⟩
            · rw [eX2, wI_at, if_neg (fun z => e z.2), g1 32 (by omega)]; exact w1
            · rw [eM2, wI_at, if_neg (fun z => e z.2), s1 3 (by omega)]; exact w2
            · rw [eM2, wI_row (by omega), s3 _ (by omega)]
    · intro j s hj ⟨s1, s2, s3⟩ ih
      have hc : ¬ (239 : Int32) ≤ nI j := by
        show ¬ nI 239 ≤ nI j
        rw [q_le (by omega) (by omega)]
        omega
      refine h13 _ _ _ ⟨fun c => absurd c hc, fun _ => ⟨v_in hj (by omega), ?_⟩⟩
      rw [sl_eq]
      refine ⟨v_in (by omega) (by omega), fun s' e y ey => ?_⟩
      rw [q_cl (by omega), q_cl (by omega)] at e
      rw [ey, nI_1]
      apply ih
      subst e
      refine ⟨fun p hp => by rw [wI_row hp]; exact s1 p hp, fun i hi => ?_, fun i hi => by rw [wI_at, if_neg (by omega)]; exact s3 i hi⟩
      rw [wI_at]
      by_cases e : i = j
      · rw [if_pos ⟨rfl, by omega⟩, s1 1 (by omega), e]
      · rw [if_neg (by omega)]; exact s2 i (by omega)
  · intro G13 h13
    exact s_in01 (fun c => absurd c q) (fun _ => u0 ⟨rfl, h⟩)
theorem p_restore : LS_restore RR := by
  intro X M a1 h
  obtain ⟨τ, h1, h2, h3, h4⟩ := id h
  have h6 := h1.1.2.2.1
  refine s_isSlot (fun q => u1 ?_) (fun q => u0 ?_)
  · obtain ⟨z, hz, rfl⟩ := id q
    refine ⟨v_in hz (by omega), ?_⟩
    rw [q_cl (by omega)]
    have mod : ∀ {K : Int32 → Mem → Prop}, (∀ (G25 : Int32 → Int32 → Mem → Prop), (∀ (b1 : Int32) (b2 : Int32) (μ : Mem), ((239 ≤ b2 → (∀ μ7 : Mem, μ7 = wI μ 0 4 0 → vp_in 34 239 ∧ (K (μ7.1 1 (34 : Int32).toNatClampNeg) μ7))) ∧ (¬ 239 ≤ b2 → (vp_in ((239 * b1) + b2) 478 ∧ (vp_in b2 239 ∧ ∀ μ11 : Mem, μ11 = wI μ 1 (b2 : Int32).toNatClampNeg (μ.1 2 ((239 * b1) + b2 : Int32).toNatClampNeg) → ∀ y12 : Int32, y12 = b2 + 1 → G25 b1 y12 μ11)))) → G25 b1 b2 μ) → ((¬ (M.1 3 z) = 0 → (G25 (nI z) 0 M)) ∧ ((M.1 3 z) = 0 → (K (-3) M)))) → f_X6_restore (nI z) M K := fun hK G25 h25 => s_in01 (fun _ => u1 ⟨v_in hz (by omega), by rw [q_cl (by omega)]; exact hK G25 h25⟩) (fun c => absurd q c)
    rcases h3 z hz with ⟨w1, w2⟩ | ⟨w1, w2, τ', w3, w4, w5⟩
    · rw [w1]
      refine ⟨fun c => absurd rfl c, fun _ => mod ?_⟩
      intro G25 h25
      rw [w2]
      exact ⟨fun c => absurd rfl c, fun _ => ⟨rfl, h⟩⟩
    · rw [w1]
      refine ⟨fun _ => ⟨v_in hz (by omega), s_copyFrom (by omega) (fun X1 g1 g2 g3 g4 g5 => ?_)⟩, fun c => absurd c (by decide)⟩
      intro X2 eX2
      refine mod ?_
      intro G25 h25
      rw [w2]
      refine ⟨fun _ => ?_, fun c => absurd c (by decide)⟩
      have h6' := w3.2.2.1
      refine lp_up (fun j (s : Mem) => G25 (nI z) (nI j) s) (fun j s => (∀ p, p ≠ 1 → s.1 p = M.1 p) ∧ (∀ i, i < j → s.1 1 i = M.1 2 (239 * z + i))) 239 ?_ ?_ 0 M (by omega) ⟨fun _ _ => rfl, fun i hi => absurd hi (by omega)⟩
      · intro s ⟨s1, s2⟩
        refine h25 _ _ _ ⟨fun _ M2 eM2 => ⟨v_in (a := 34) (by decide) (by decide), ?_⟩, fun c => absurd (Int32.le_refl 239) c⟩
        have fX : ∀ p, 11 ≤ p → X2.1 p = X.1 p := fun p a => by rw [eX2, wI_row (by omega)]; exact g1 p (by omega)
        have fM : ∀ p, p ≠ 0 → p ≠ 1 → M2.1 p = M.1 p := fun p a b => by rw [eM2, wI_row a]; exact s1 p b
        have i34 : ((34 : Int32).toNatClampNeg) = 34 := by decide
        have hX : RXS X2 1 τ' := by
          have : RXS X1 1 τ' := RXS_copy w4 h6' g2 g3 g4 g5
          exact this.fr h6' (by rw [eX2, wI_row (by omega)]) (by rw [eX2, wI_row (by omega)]) (fun f hf => by rw [eX2, wI_row (by omega)]) (by rw [eX2, wI_row (by omega)])
        have hM : RMS M2 1 0 τ' := RMS_copy w5 h6' (fun i hi => by rw [eM2, wI_row (by omega), Nat.zero_add, s2 i hi])
        refine ⟨?_, τ', ⟨w3, hX, hM⟩, ⟨0, fun _ => 0, by omega, by rw [eX2, wI_at, if_pos ⟨rfl, rfl⟩]; rfl, by rw [eM2, wI_at, if_pos ⟨rfl, rfl⟩]; rfl, fun i hi => absurd hi (by omega)⟩, h3.fr (fun p a b => fX p (by omega)) (fM 2 (by omega) (by omega)) (fM 3 (by omega) (by omega)), h4.fr (by rw [fX 33 (by omega)]) (fX 34 (by omega)) (by rw [eM2, wI_at, if_neg (by omega), s1 0 (by omega)]) (fM 5 (by omega) (by omega))⟩
        rw [i34, hX.2.2.1]
        exact hM.2.2.1.symm
      · intro j s hj ⟨s1, s2⟩ ih
        have hc : ¬ (239 : Int32) ≤ nI j := by
          show ¬ nI 239 ≤ nI j
          rw [q_le (by omega) (by omega)]
          omega
        refine h25 _ _ _ ⟨fun c => absurd c hc, fun _ => ?_⟩
        rw [sl_eq]
        refine ⟨v_in (by omega) (by omega), v_in hj (by omega), fun s' e y ey => ?_⟩
        rw [q_cl (by omega), q_cl (by omega)] at e
        rw [ey, nI_1]
        apply ih
        subst e
        refine ⟨fun p hp => by rw [wI_row hp]; exact s1 p hp, fun i hi => ?_⟩
        rw [wI_at]
        by_cases e : i = j
        · rw [if_pos ⟨rfl, e⟩, s1 2 (by omega), e]
        · rw [if_neg (fun z => e z.2)]; exact s2 i (by omega)
  · intro G25 h25
    exact s_in01 (fun c => absurd c q) (fun _ => u0 ⟨rfl, h⟩)
/-! the start -/
def PS0 (S : Mem) : Prop := S = wA memS 1 (fun c => if c < 32 then -1 else memS.1 1 c)
def PM0 (M : Mem) : Prop := (∀ p, p ≠ 1 → M.1 p = zeroM.1 p) ∧ M.1 1 0 = nI 2 ∧ M.1 1 1 = nI 2 ∧ (∀ c, c < 32 → M.1 1 (2+c) = -1) ∧ (∀ c, 34 ≤ c → c < 239 → M.1 1 c = 0)
theorem hPS0 : f_J7_fill_53178 1 32 (-1) memS PS0 := s_fill _ _ _ _ _ (by decide) rfl
theorem hPM0 : f_X6_anew 2 2 zeroM PM0 := s_anew 2 2 (by decide) (by decide) _ _ (fun M g1 g2 g3 g4 g5 => ⟨g1, g2, g3, g4, g5⟩)
theorem hRR0 (a b c M : Mem) (ha : PS0 a) (hb : PS0 b) (hc : PS0 c) (hM : PM0 M) : RR (memX a b c) M := by
  refine ⟨su0 2 2, ⟨ok0 (by decide) (by decide), ?_, M0 hM.2.1 hM.2.2.1 hM.2.2.2.1 hM.2.2.2.2⟩, ⟨0, fun _ => 0, by omega, rfl, ?_, fun i hi => absurd hi (by omega)⟩, fun z hz => Or.inl ⟨rfl, ?_⟩, ⟨0, fun _ => 0, by omega, rfl, ?_, fun i hi => absurd hi (by omega)⟩⟩
  · rw [ha]
    refine ⟨rfl, rfl, rfl, fun f hf => b_0 f, fun c hc => ?_, fun f hf => absurd hf (Nat.not_lt_zero f), fun g hg f hf => b_0 f⟩
    show (if c < 32 then (-1 : Int32) else _) = -1
    rw [if_pos hc]
  · rw [hM.1 0 (by omega)]; rfl
  · rw [hM.1 3 (by omega)]; rfl
  · rw [hM.1 0 (by omega)]; rfl
