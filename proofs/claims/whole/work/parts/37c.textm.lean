/-! the reference's reading -/
def bM (M : Mem) (n k tl cnt p : Nat) (td : Nat → Nat) (E : Nat → Int32) (Y : Mem) : Prop := sM M Y ∧ Y.1 1 0 = nI n ∧ Y.1 1 1 = nI k ∧ Y.1 0 6 = nI tl ∧ Y.1 0 7 = nI p ∧ Y.1 0 9 = nI cnt ∧ (∀ c, c < 32 → Y.1 6 c = encM (E c)) ∧ ∀ i, i < tl → Y.1 5 i = nI (td i)
section TM
variable {M : Mem} {n k tl cnt p : Nat} {td : Nat → Nat} {E : Nat → Int32}
theorem bM_7 {Y : Mem} (h : bM M n k tl cnt p td E Y) (p' : Nat) : bM M n k tl cnt p' td E (wI Y 0 7 (nI p')) := ⟨sM_0 h.1 (by omega) _, by rw [wI_row (by omega)]; exact h.2.1, by rw [wI_row (by omega)]; exact h.2.2.1, by rw [wI_at, if_neg (by omega)]; exact h.2.2.2.1, by rw [wI_at, if_pos ⟨rfl, rfl⟩], by rw [wI_at, if_neg (by omega)]; exact h.2.2.2.2.2.1, fun c hc => by rw [wI_row (by omega)]; exact h.2.2.2.2.2.2.1 c hc, fun i hi => by rw [wI_row (by omega)]; exact h.2.2.2.2.2.2.2 i hi⟩
/-- what stands here: the byte, or -1 at the end -/
theorem s_here {Y : Mem} {K : Int32 → Mem → Prop} (h : bM M n k tl cnt p td E Y) (ht : tl ≤ 80) (hp : p ≤ tl) (h1 : p < tl → K (nI (td p)) Y) (h0 : p = tl → K (-1) Y) : f_X6_here Y K := by
  unfold f_X6_here
  rw [h.2.2.2.1, h.2.2.2.2.1, q_le (by omega) (by omega)]
  refine ⟨fun c => h0 (by omega), fun c => ⟨v_in (by omega) (by omega), ?_⟩⟩
  rw [q_cl (by omega), h.2.2.2.2.2.2.2 p (by omega)]
  exact h1 (by omega)
theorem s_here' {Y : Mem} {K : Int32 → Mem → Prop} (h : bM M n k tl cnt p td E Y) (ht : tl ≤ 80) (hp : p ≤ tl) (h1 : ∀ r, (p < tl ∧ r = nI (td p)) ∨ (p = tl ∧ r = -1) → K r Y) : f_X6_here Y K := s_here h ht hp (fun c => h1 _ (Or.inl ⟨c, rfl⟩)) (fun c => h1 _ (Or.inr ⟨c, rfl⟩))
theorem s_takesM {Y : Mem} {K : Int32 → Mem → Prop} (h : bM M n k tl cnt p td E Y) (ht : tl ≤ 80) (htd : ∀ i, i < tl → td i < 128) (hp : p ≤ tl) {a : Nat} (ha : a < 128) (h1 : p < tl ∧ td p = a → ∀ Z, bM M n k tl cnt (p+1) td E Z → K 1 Z) (h0 : ¬ (p < tl ∧ td p = a) → ∀ Z, bM M n k tl cnt p td E Z → K 0 Z) : f_X6_takes (nI a) Y K := by
  intro G hG
  have e7 := h.2.2.2.2.1
  have go1 : p < tl ∧ td p = a → G 1 Y := fun c => hG _ _ ⟨fun z => absurd z (by decide), fun _ Z e => ⟨isB_1, h1 c Z (by rw [e, e7, nI_1]; exact bM_7 h (p+1))⟩⟩
  have go0 : ¬ (p < tl ∧ td p = a) → G 0 Y := fun c => hG _ _ ⟨fun _ Z e => ⟨isB_0, h0 c Z (by rw [e, e7, show nI p + 0 = nI p from nI_add p 0]; exact bM_7 h p)⟩, fun z => absurd rfl z⟩
  refine s_here h ht hp (fun hlt => ?_) (fun he => ?_)
  · have := htd p hlt
    rw [q_eq (by omega) (by omega)]
    exact ⟨fun c => go0 (fun z => c z.2), fun c => go1 ⟨hlt, c⟩⟩
  · refine ⟨fun _ => go0 (by omega), fun c => absurd c (fun z => ?_)⟩
    have := q_m1 a (by omega)
    rw [← this]
    exact z.symm
theorem s_digit {Y : Mem} {K : Int32 → Mem → Prop} (h : bM M n k tl cnt p td E Y) (ht : tl ≤ 80) (htd : ∀ i, i < tl → td i < 128) (hp : p ≤ tl) {m : Nat} (hm : m ≤ 10) (h1 : p < tl ∧ 48 ≤ td p ∧ td p < 48 + m → ∀ Z, bM M n k tl cnt (p+1) td E Z → K (nI (td p - 48)) Z) (h0 : ¬ (p < tl ∧ 48 ≤ td p ∧ td p < 48 + m) → ∀ Z, bM M n k tl cnt p td E Z → K (-1) Z) : f_X6_digit (nI m - 1) Y K := by
  intro G hG
  have e7 := h.2.2.2.2.1
  have main : ∀ y3 : Int32, (inR y3 m → p < tl ∧ 48 ≤ td p ∧ td p < 48 + m ∧ y3 = nI (td p - 48)) → (¬ inR y3 m → ¬ (p < tl ∧ 48 ≤ td p ∧ td p < 48 + m)) → f_X6_in y3 0 (nI m - 1) Y (fun r4 μ5 => (r4 = 0 → (G (nI m - 1) y3 0 (Y.1 0 7) μ5)) ∧ (¬ r4 = 0 → (G (nI m - 1) y3 1 (Y.1 0 7) μ5))) := by
    intro y3 g1 g0
    refine s_inR (by omega) (fun q => t1 ?_) (fun q => t0 ?_)
    · refine hG _ _ _ _ _ (fun Z e => ?_)
      obtain ⟨w1, w2, w3, w4⟩ := g1 q
      refine s_inR (by omega) (fun _ => t1 ?_) (fun c => absurd q c)
      rw [w4]
      exact h1 ⟨w1, w2, w3⟩ Z (by rw [e, e7, nI_1]; exact bM_7 h (p+1))
    · refine hG _ _ _ _ _ (fun Z e => ?_)
      refine s_inR (by omega) (fun c => absurd c q) (fun _ => t0 ?_)
      exact h0 (g0 q) Z (by rw [e, e7, show nI p + 0 = nI p from nI_add p 0]; exact bM_7 h p)
  refine s_here h ht hp (fun hlt => ?_) (fun he => ?_)
  · have hd := htd p hlt
    intro y3 ey
    refine main y3 (fun q => ?_) (fun q z => q ?_)
    · obtain ⟨j, hj, ej⟩ := q
      rcases dig48 hd with ⟨a, b⟩ | ⟨a, b⟩
      · rw [← ey, ej] at b; exact absurd b (nI_pos (by omega))
      · rw [← ey, ej, q_eq (by omega) (by omega)] at b
        exact ⟨hlt, a, by omega, by rw [ej, b]⟩
    · rcases dig48 hd with ⟨a, b⟩ | ⟨a, b⟩
      · omega
      · exact ⟨td p - 48, by omega, by rw [ey, b]⟩
  · intro y3 ey
    refine main y3 (fun q => ?_) (fun _ => by omega)
    obtain ⟨j, hj, ej⟩ := q
    rw [ej] at ey
    have h1 := congrArg Int32.toInt ey
    rw [nI_toInt (by omega)] at h1
    have h2 : ((-1 : Int32) - 48).toInt = -49 := by decide
    rw [h2] at h1
    omega
theorem enc_neg {x : Int32} (hn : n ≤ 8) (h : okE n x) : (encM x < 0) ↔ x = -2 := by
  have := encM_nn hn h
  constructor
  · intro c
    by_cases e : x = -2
    · exact e
    · exact absurd c (Int32.not_lt.mpr (this.mpr e))
  · intro c
    subst c
    decide
/-- one change -/
theorem chgM {Y : Mem} {K : Int32 → Mem → Prop} (h : bM M n k tl cnt p td E Y) (hE : ∀ c, c < 32 → okE n (E c)) (hn0 : 1 ≤ n) (hn : n ≤ 8) (hk : k ≤ 4) (ht : tl ≤ 80) (htd : ∀ i, i < tl → td i < 128) (hp : p < tl) (hbad : ∀ q, chg n k tl td E p = .inl q → ∀ Z, sM M Z → Z.1 0 7 = nI q → K 0 Z) (hok : ∀ p' c v, chg n k tl td E p = .inr (p', c, v) → ∀ Z, bM M n k tl (cnt+1) p' td (upd E c v) Z → K 1 Z) : f_X6_isChange Y K := by
  intro G hG
  unfold chg at hbad hok
  refine ⟨v_in (a := 0) (by decide) (by decide), ?_⟩
  show f_X6_digit (Y.1 1 0 - 1) Y _
  rw [h.2.1]
  refine s_digit h ht htd (by omega) (by omega) (fun c0 Z0 b0 => ?_) (fun c0 Z0 b0 => ?_)
  · rw [if_pos c0] at hbad hok
    have c1bad : ¬ (p + 1 < tl ∧ 97 ≤ td (p+1) ∧ td (p+1) < 97 + k ∧ E ((td p - 48) * 4 + (td (p+1) - 97)) = -2) → K 0 Z0 := fun c1 => by
      rw [if_neg c1] at hbad
      exact hbad _ rfl Z0 b0.1 b0.2.2.2.2.1
    refine s_here' b0 ht (by omega) (fun r4 hr y6 ey6 => ?_)
    have g1 : inR y6 k → p + 1 < tl ∧ 97 ≤ td (p+1) ∧ td (p+1) < 97 + k ∧ y6 = nI (td (p+1) - 97) := by
      intro ⟨j, hj, ej⟩
      rcases hr with ⟨hlt, er⟩ | ⟨he, er⟩
      · rw [er] at ey6
        rcases dig97 (htd (p+1) hlt) with ⟨a, b⟩ | ⟨a, b⟩
        · rw [← ey6, ej] at b; exact absurd b (nI_pos (by omega))
        · rw [← ey6, ej, q_eq (by omega) (by have := htd (p+1) hlt; omega)] at b
          exact ⟨hlt, a, by omega, by rw [ej, b]⟩
      · rw [er, ej] at ey6
        have h1 := congrArg Int32.toInt ey6
        rw [nI_toInt (by omega)] at h1
        have h2 : ((-1 : Int32) - 97).toInt = -98 := by decide
        rw [h2] at h1
        omega
    have g0 : ¬ inR y6 k → ¬ (p + 1 < tl ∧ 97 ≤ td (p+1) ∧ td (p+1) < 97 + k) := by
      intro q z
      rcases hr with ⟨hlt, er⟩ | ⟨he, er⟩
      · rw [er] at ey6
        rcases dig97 (htd (p+1) hlt) with ⟨a, b⟩ | ⟨a, b⟩
        · omega
        · exact q ⟨td (p+1) - 97, by omega, by rw [ey6, b]⟩
      · omega
    refine ⟨fun z => absurd z (nI_pos (by omega)), fun _ => ?_⟩
    refine s_isLetter (by omega) b0.2.2.1 (fun q => t1 ?_) (fun q => t0 (c1bad (fun z => g0 q ⟨z.1, z.2.1, z.2.2.1⟩)))
    obtain ⟨w1, w2, w3, w4⟩ := g1 q
    rw [w4]
    have ec : (4 * nI (td p - 48) + nI (td (p+1) - 97) : Int32) = nI ((td p - 48) * 4 + (td (p+1) - 97)) := by
      show nI 4 * nI _ + nI _ = _
      rw [pk_mul, nI_add, Nat.mul_comm]
    rw [ec]
    refine ⟨v_in (by omega) (by omega), ?_⟩
    rw [q_cl (by omega), b0.2.2.2.2.2.2.1 _ (by omega)]
    have en := enc_neg hn (hE ((td p - 48) * 4 + (td (p+1) - 97)) (by omega))
    refine ⟨fun c1 Z1 e1 => ?_, fun c1 => c1bad (fun z => c1 (en.mpr z.2.2.2))⟩
    have c1' : p + 1 < tl ∧ 97 ≤ td (p+1) ∧ td (p+1) < 97 + k ∧ E ((td p - 48) * 4 + (td (p+1) - 97)) = -2 := ⟨w1, w2, w3, en.mp c1⟩
    rw [if_pos c1'] at hbad hok
    have b1 : bM M n k tl cnt (p+2) td E Z1 := by rw [e1, b0.2.2.2.2.1, nI_1]; exact bM_7 b0 (p+2)
    -- the end of a change
    have fin : ∀ (q : Nat) (v b3 : Int32) (Z : Mem), q ≤ tl → b3 = encM v → bM M n k tl cnt q td E Z → (∀ x, chF tl td q ((td p - 48) * 4 + (td (p+1) - 97)) v = .inl x → ∀ Z, sM M Z → Z.1 0 7 = nI x → K 0 Z) → (∀ p' c v', chF tl td q ((td p - 48) * 4 + (td (p+1) - 97)) v = .inr (p', c, v') → ∀ Z, bM M n k tl (cnt+1) p' td (upd E c v') Z → K 1 Z) → G (nI (td p - 48)) (nI (td (p+1) - 97)) b3 Z := by
      intro q v b3 Z hq eb bZ f0 f1
      unfold chF at f0 f1
      refine hG _ _ _ _ ?_
      refine s_takesM (a := 59) bZ ht htd hq (by decide) (fun c6 Z6 b6 => u1 ?_) (fun c6 Z6 b6 => u0 ?_)
      · rw [if_pos c6] at f1
        rw [ec]
        refine ⟨v_in (by omega) (by omega), fun Z7 e7 Z8 e8 => f1 _ _ _ rfl Z8 ?_⟩
        rw [q_cl (by omega)] at e7
        subst e8; subst e7
        refine ⟨sM_0 (sM_wI b6.1 (by omega) _ _) (by omega) _, ?_, ?_, ?_, ?_, ?_, fun c hc => ?_, fun i hi => ?_⟩
        · rw [wI_row (by omega), wI_row (by omega)]; exact b6.2.1
        · rw [wI_row (by omega), wI_row (by omega)]; exact b6.2.2.1
        · rw [wI_at, if_neg (by omega), wI_row (by omega)]; exact b6.2.2.2.1
        · rw [wI_at, if_neg (by omega), wI_row (by omega)]; exact b6.2.2.2.2.1
        · rw [wI_at, if_pos ⟨rfl, rfl⟩, wI_row (by omega), b6.2.2.2.2.2.1, nI_1]
        · rw [wI_row (by omega), wI_at, upd_at]
          by_cases e : c = (td p - 48) * 4 + (td (p+1) - 97)
          · rw [if_pos ⟨rfl, e⟩, if_pos e]; exact eb
          · rw [if_neg (fun z => e z.2), if_neg e]; exact b6.2.2.2.2.2.2.1 c hc
        · rw [wI_row (by omega), wI_row (by omega)]; exact b6.2.2.2.2.2.2.2 i hi
      · rw [if_neg c6] at f0
        exact f0 _ rfl Z6 b6.1 b6.2.2.2.2.1
    refine s_takesM (a := 45) b1 ht htd (by omega) (by decide) (fun c2 Z2 b2 => u1 ?_) (fun c2 Z2 b2 => u0 ?_)
    · rw [if_pos c2] at hbad hok
      exact fin (p+3) (-1) 100 Z2 (by omega) rfl b2 hbad hok
    · rw [if_neg c2] at hbad hok
      refine s_takesM (a := 62) b2 ht htd (by omega) (by decide) (fun c3 Z3 b3 => u1 ?_) (fun c3 Z3 b3 => u0 ?_)
      · rw [if_pos c3] at hbad hok
        refine ⟨v_in (a := 0) (by decide) (by decide), ?_⟩
        show f_X6_digit (Z3.1 1 0 - 1) Z3 _
        rw [b3.2.1]
        refine s_digit b3 ht htd (by omega) (by omega) (fun c4 Z4 b4 => ?_) (fun c4 Z4 b4 => ?_)
        · have c4 : p + 3 < tl ∧ 48 ≤ td (p+3) ∧ td (p+3) < 48 + n := c4
          rw [if_pos c4] at hbad hok
          refine ⟨fun z => absurd z (nI_pos (by omega)), fun _ => ?_⟩
          refine s_takesM (a := 47) b4 ht htd (by omega) (by decide) (fun c5 Z5 b5 => u1 ?_) (fun c5 Z5 b5 => u0 ?_)
          · rw [if_pos c5] at hbad hok
            have d9 : (9 : Int32) = nI 10 - 1 := by decide
            rw [d9]
            refine s_digit b5 ht htd (by omega) (by omega) (fun c6 Z6 b6 => ?_) (fun c6 Z6 b6 => ?_)
            · have c6 : p + 5 < tl ∧ 48 ≤ td (p+5) ∧ td (p+5) < 58 := c6
              rw [if_pos c6] at hbad hok
              intro y29 e29
              refine ⟨fun _ => ?_, fun z => absurd (nI_pos' (by omega)) z⟩
              refine fin (p+6) (nI (10 * (td (p+3) - 48) + (td (p+5) - 48))) y29 Z6 (by omega) ?_ b6 hbad hok
              rw [e29]
              have e3 : (nI (td (p + 2 + 1) - 48) : Int32) = nI (td (p+3) - 48) := rfl
              rw [e3]
              have e5 : (nI (td (p + 2 + 1 + 1 + 1) - 48) : Int32) = nI (td (p+5) - 48) := rfl
              rw [e5, arr_eq]
              exact (enc_val (n := n) hn (Or.inr ⟨td (p+3) - 48, td (p+5) - 48, by omega, by omega, rfl⟩) (by rw [Ne, q_m1 _ (by omega)]; exact id)).symm
            · have c6 : ¬ (p + 5 < tl ∧ 48 ≤ td (p+5) ∧ td (p+5) < 58) := c6
              rw [if_neg c6] at hbad
              intro y29 e29
              exact ⟨fun z => absurd z (by decide), fun _ => hbad _ rfl Z6 b6.1 b6.2.2.2.2.1⟩
          · have c5 : ¬ (p + 4 < tl ∧ td (p+4) = 47) := c5
            rw [if_neg c5] at hbad
            exact hbad _ rfl Z5 b5.1 b5.2.2.2.2.1
        · have c4 : ¬ (p + 3 < tl ∧ 48 ≤ td (p+3) ∧ td (p+3) < 48 + n) := c4
          rw [if_neg c4] at hbad
          exact ⟨fun _ => hbad _ rfl Z4 b4.1 b4.2.2.2.2.1, fun z => absurd (by decide) z⟩
      · rw [if_neg c3] at hbad
        exact hbad _ rfl Z3 b3.1 b3.2.2.2.2.1
  · rw [if_neg c0] at hbad
    have hb := hbad _ rfl
    refine s_here b0 ht (by omega) (fun hlt y6 e6 => ⟨fun _ => hb Z0 b0.1 b0.2.2.2.2.1, fun z => absurd (by decide) z⟩) (fun he y6 e6 => ⟨fun _ => hb Z0 b0.1 b0.2.2.2.2.1, fun z => absurd (by decide) z⟩)
end TM
