/-! text and word, on and off, features, begin -/
theorem p_clearText : LS_clearText RR := by
  intro X M h y1 e1 X1 eX y2 e2 M1 eM
  obtain ⟨τ, h1, h2, h3, tl, td, h4, h5, h6, h7⟩ := id h
  refine ⟨by rw [e1, e2, h5, h6], τ, ?_, ?_, ?_, 0, td, by omega, ?_, ?_, fun i hi => absurd hi (by omega)⟩
  · exact h1.fr1 (fun p a b => by rw [eX, wI_row (by omega)]) (by rw [eM, wI_row (by omega)])
  · exact h2.fr (by rw [eX, wI_row (by omega)]) (by rw [eX, wI_row (by omega)]) (by rw [eM, wI_at, if_neg (by omega)]) (by rw [eM, wI_row (by omega)])
  · exact h3.fr (fun p a b => by rw [eX, wI_row (by omega)]) (by rw [eM, wI_row (by omega)]) (by rw [eM, wI_row (by omega)])
  · rw [eX, wI_at, if_pos ⟨rfl, rfl⟩]; rfl
  · rw [eM, wI_at, if_pos ⟨rfl, rfl⟩]; rfl
theorem p_clearWord : LS_clearWord RR := by
  intro X M h y1 e1 X1 eX y2 e2 M1 eM
  obtain ⟨τ, h1, ⟨wl, wd, h4, h5, h6, h7⟩, h3, h8⟩ := id h
  refine ⟨by rw [e1, e2, h5, h6], τ, ?_, ⟨0, wd, by omega, ?_, ?_, fun i hi => absurd hi (by omega)⟩, ?_, ?_⟩
  · exact h1.fr1 (fun p a b => by rw [eX, wI_row (by omega)]) (by rw [eM, wI_row (by omega)])
  · rw [eX, wI_at, if_pos ⟨rfl, rfl⟩]; rfl
  · rw [eM, wI_at, if_pos ⟨rfl, rfl⟩]; rfl
  · exact h3.fr (fun p a b => by rw [eX, wI_row (by omega)]) (by rw [eM, wI_row (by omega)]) (by rw [eM, wI_row (by omega)])
  · exact h8.fr (by rw [eX, wI_row (by omega)]) (by rw [eX, wI_row (by omega)]) (by rw [eM, wI_at, if_neg (by omega)]) (by rw [eM, wI_row (by omega)])
theorem in127 (x : Int32) : (¬ x < 0 ∧ x ≤ 127) ↔ inR x 128 := by
  rw [inR_iff (by decide)]
  constructor
  · intro ⟨a, b⟩
    refine ⟨a, fun c => ?_⟩
    have h1 : (127 : Int32).toInt = 127 := by decide
    have h2 : (nI 128).toInt = 128 := by decide
    rw [Int32.le_iff_toInt_le, h1] at b
    rw [Int32.le_iff_toInt_le, h2] at c
    omega
  · intro ⟨a, b⟩
    refine ⟨a, ?_⟩
    have h1 : (127 : Int32).toInt = 127 := by decide
    have h2 : (nI 128).toInt = 128 := by decide
    rw [Int32.le_iff_toInt_le, h2] at b
    rw [Int32.le_iff_toInt_le, h1]
    omega
theorem p_append : LS_append RR := by
  intro X M a1 h
  obtain ⟨τ, h1, h2, h3, tl, td, h4, h5, h6, h7⟩ := id h
  have n128 : (nI 128 - 1 : Int32) = 127 := by decide
  have bad : ¬ inR a1 128 → f_X6_append a1 M (fun r2 M1 => (-2 : Int32) = r2 ∧ RR X M1) := fun q => by
    unfold f_X6_append
    rw [← n128]
    exact s_inR (by decide) (fun c => absurd c q) (fun _ => u0 ⟨rfl, h⟩)
  refine ⟨fun c => bad (fun q => ((in127 a1).mpr q).1 c), fun c => ⟨fun d => ?_, fun d => bad (fun q => d ((in127 a1).mpr q).2)⟩⟩
  have q := (in127 a1).mp ⟨c, d⟩
  have mod : ∀ {K : Int32 → Mem → Prop}, ((¬ (M.1 0 6) = 80 → (vp_in (M.1 0 6) 80 ∧ ∀ μ6 : Mem, μ6 = wI M 5 (M.1 0 6 : Int32).toNatClampNeg a1 → ∀ μ7 : Mem, μ7 = wI μ6 0 6 ((μ6.1 0 6) + 1) → K (μ7.1 0 6) μ7)) ∧ ((M.1 0 6) = 80 → (K (-4) M))) → f_X6_append a1 M K := fun hK => by
    unfold f_X6_append
    rw [← n128]
    exact s_inR (by decide) (fun _ => u1 hK) (fun z => absurd q z)
  rw [h5]
  have e80 : (80 : Int32) = nI 80 := rfl
  refine ⟨fun c1 => ?_, fun c1 => mod ?_⟩
  · rw [e80, q_lt (by omega) (by omega)] at c1
    refine ⟨v_in c1 (by omega), ?_⟩
    intro X5 eX5 X6 eX6
    refine mod ?_
    rw [h6, q_cl (by omega)]
    refine ⟨fun _ => ⟨v_in c1 (by omega), ?_⟩, fun z => absurd z (by rw [e80, q_eq (by omega) (by omega)]; omega)⟩
    intro M5 eM5 M6 eM6
    rw [q_cl (by omega)] at eX5
    obtain ⟨ch, hch, rfl⟩ := id q
    have x33 : X6.1 33 1 = nI (tl + 1) := by
      rw [eX6, wI_at, if_pos ⟨rfl, rfl⟩, eX5, wI_row (by omega), h5, nI_1]
    have m6 : M6.1 0 6 = nI (tl + 1) := by
      rw [eM6, wI_at, if_pos ⟨rfl, rfl⟩, eM5, wI_row (by omega), h6, nI_1]
    have fX : ∀ p, p ≠ 33 → p ≠ 34 → X6.1 p = X.1 p := fun p a b => by rw [eX6, wI_row a, eX5, wI_row b]
    have fM : ∀ p, p ≠ 0 → p ≠ 5 → M6.1 p = M.1 p := fun p a b => by rw [eM6, wI_row a, eM5, wI_row b]
    have fM0 : M6.1 0 4 = M.1 0 4 := by rw [eM6, wI_at, if_neg (by omega), eM5, wI_row (by omega)]
    refine ⟨by rw [x33, m6], τ, h1.fr1 (fun p a b => fX p (by omega) (by omega)) (fM 1 (by omega) (by omega)), h2.fr (by rw [fX 0 (by omega) (by omega)]) (fX 36 (by omega) (by omega)) fM0 (fM 4 (by omega) (by omega)), h3.fr (fun p a b => fX p (by omega) (by omega)) (fM 2 (by omega) (by omega)) (fM 3 (by omega) (by omega)), tl + 1, fun i => if i = tl then ch else td i, by omega, x33, m6, fun i hi => ?_⟩
    dsimp only
    rw [eX6, wI_row (by omega), eX5, wI_at, eM6, wI_row (by omega), eM5, wI_at]
    by_cases e : i = tl
    · rw [if_pos e, if_pos ⟨rfl, e⟩, if_pos ⟨rfl, e⟩]
      exact ⟨hch, rfl, rfl⟩
    · rw [if_neg e, if_neg (fun z => e z.2), if_neg (fun z => e z.2)]
      exact h7 i (by omega)
  · rw [e80, q_lt (by omega) (by omega)] at c1
    rw [h6]
    refine ⟨fun z => absurd (by rw [e80, show tl = 80 by omega]) z, fun _ => ⟨rfl, h⟩⟩
theorem p_add : LS_add RR := by
  intro X M a1 h
  obtain ⟨τ, h1, ⟨wl, wd, h4, h5, h6, h7⟩, h3, h8⟩ := id h
  have hk := h1.1.2.1.2
  have k1 : suK τ < 2147483648 := by omega
  have eM1 : M.1 1 1 = nI (suK τ) := h1.2.2.2.1
  have e20 : (20 : Int32) = nI 20 := rfl
  refine s_hasLetter k1 h1.2.1.2.1 (fun q => u1 ?_) (fun q => u0 (s_isLetter k1 eM1 (fun c => absurd c q) (fun _ => u0 ⟨rfl, h⟩)))
  have mod : ∀ {K : Int32 → Mem → Prop}, ((¬ (M.1 0 4) = 20 → (vp_in (M.1 0 4) 20 ∧ ∀ μ6 : Mem, μ6 = wI M 4 (M.1 0 4 : Int32).toNatClampNeg a1 → ∀ μ7 : Mem, μ7 = wI μ6 0 4 ((μ6.1 0 4) + 1) → K (μ7.1 0 4) μ7)) ∧ ((M.1 0 4) = 20 → (K (-4) M))) → f_X6_add a1 M K := fun hK => s_isLetter k1 eM1 (fun _ => u1 hK) (fun c => absurd q c)
  rw [h5]
  refine ⟨fun c1 => ?_, fun c1 => mod ?_⟩
  · rw [e20, q_lt (by omega) (by omega)] at c1
    refine ⟨v_in c1 (by omega), ?_⟩
    intro X5 eX5 X6 eX6
    refine mod ?_
    rw [h6, q_cl (by omega)]
    refine ⟨fun _ => ⟨v_in c1 (by omega), ?_⟩, fun z => absurd z (by rw [e20, q_eq (by omega) (by omega)]; omega)⟩
    intro M5 eM5 M6 eM6
    rw [q_cl (by omega)] at eX5
    obtain ⟨ch, hch, rfl⟩ := id q
    have x33 : X6.1 0 5 = nI (wl + 1) := by
      rw [eX6, wI_at, if_pos ⟨rfl, rfl⟩, eX5, wI_row (by omega), h5, nI_1]
    have m6 : M6.1 0 4 = nI (wl + 1) := by
      rw [eM6, wI_at, if_pos ⟨rfl, rfl⟩, eM5, wI_row (by omega), h6, nI_1]
    have fX : ∀ p, p ≠ 0 → p ≠ 36 → X6.1 p = X.1 p := fun p a b => by rw [eX6, wI_row a, eX5, wI_row b]
    have fM : ∀ p, p ≠ 0 → p ≠ 4 → M6.1 p = M.1 p := fun p a b => by rw [eM6, wI_row a, eM5, wI_row b]
    have fM0 : M6.1 0 6 = M.1 0 6 := by rw [eM6, wI_at, if_neg (by omega), eM5, wI_row (by omega)]
    refine ⟨by rw [x33, m6], τ, h1.fr1 (fun p a b => fX p (by omega) (by omega)) (fM 1 (by omega) (by omega)), ⟨wl + 1, fun i => if i = wl then ch else wd i, by omega, x33, m6, fun i hi => ?_⟩, h3.fr (fun p a b => fX p (by omega) (by omega)) (fM 2 (by omega) (by omega)) (fM 3 (by omega) (by omega)), h8.fr (by rw [fX 33 (by omega) (by omega)]) (fX 34 (by omega) (by omega)) fM0 (fM 5 (by omega) (by omega))⟩
    dsimp only
    rw [eX6, wI_row (by omega), eX5, wI_at, eM6, wI_row (by omega), eM5, wI_at]
    by_cases e : i = wl
    · rw [if_pos e, if_pos ⟨rfl, e⟩, if_pos ⟨rfl, e⟩]
      exact ⟨hch, rfl, rfl⟩
    · rw [if_neg e, if_neg (fun z => e z.2), if_neg (fun z => e z.2)]
      exact h7 i (by omega)
  · rw [e20, q_lt (by omega) (by omega)] at c1
    rw [h6]
    refine ⟨fun z => absurd (by rw [e20, show wl = 20 by omega]) z, fun _ => ⟨rfl, h⟩⟩
theorem bt_1 {i : Nat} (hi : i < 32) : bt 1 i = decide (i = 0) := (by decide +kernel : ∀ i, i < 32 → bt 1 i = decide (i = 0)) i hi
theorem bt_sh {f g : Nat} (hf : f < 32) (hg : g < 32) : bt (1 <<< (nI f &&& 31)) g = decide (g = f) := by
  rw [b_shl f hf 1 hg, bt_1 (by omega)]
  by_cases h : g = f
  · simp [h]
  · by_cases h2 : f ≤ g
    · simp [h, h2, show ¬ g - f = 0 by omega]
    · simp [h, h2]
theorem bt_on {x : Int32} {f g : Nat} (hf : f < 32) (hg : g < 32) : bt (x ||| (1 <<< (nI f &&& 31))) g = if g = f then true else bt x g := by
  rw [b_or, bt_sh hf hg]
  by_cases h : g = f <;> simp [h]
theorem bt_off {x : Int32} {f g : Nat} (hf : f < 32) (hg : g < 32) : bt (x &&& ((1 <<< (nI f &&& 31)) ^^^ (-1))) g = if g = f then false else bt x g := by
  rw [b_and, b_xor, bt_sh hf hg, b_m1 g hg]
  by_cases h : g = f <;> simp [h]
theorem s_isOn {B f : Nat} (hf : f < 31) {μ : Mem} {K : Int32 → Mem → Prop} {b : Bool} (e : bt (μ.1 B 3) f = b) (h : K (if b then 1 else 0) μ) : f_X2_isOn B (nI f) μ K := by
  refine s_hasBit hf ?_
  rw [e]
  exact ⟨by cases b; exact isB_0; exact isB_1, h⟩
/-- on or off -/
def upO (o : Nat → Bool) (f : Nat) (b : Bool) : Nat → Bool := fun g => if g = f then b else o g
theorem RS_setO {X M : Mem} {τ : SU} (h : RS X 1 M 1 0 τ) {f : Nat} (hf : f < suF τ) {b : Bool} {v : Int32} (hv : ∀ g, g < 32 → bt v g = upO (suO τ) f b g) : RS (wI X 1 3 v) 1 (wI M 1 (35+34*f) (if b then 1 else 0)) 1 0 (τ.1, suB τ, suE τ, upO (suO τ) f b, suP τ) := by
  obtain ⟨h0, hX, hM⟩ := h
  have h6 : suF τ ≤ 6 := h0.2.2.1
  refine ⟨?_, ?_, ?_⟩
  · refine ⟨h0.1, h0.2.1, h0.2.2.1, h0.2.2.2.1, h0.2.2.2.2.1, fun g hg => ?_, h0.2.2.2.2.2.2⟩
    have hg : suF τ ≤ g := hg
    show (if g = f then b else suO τ g) = false
    rw [if_neg (by omega)]
    exact h0.2.2.2.2.2.1 g hg
  · obtain ⟨a0, a1, a2, a3, a4, a5, a6⟩ := hX
    refine ⟨by rw [wI_at, if_neg (by omega)]; exact a0, by rw [wI_at, if_neg (by omega)]; exact a1, by rw [wI_at, if_neg (by omega)]; exact a2, fun g hg => ?_, fun d hd => by rw [wI_row (by omega)]; exact a4 d hd, fun g hg d hd => by rw [wI_row (by omega)]; exact a5 g hg d hd, fun g hg k hk => by rw [wI_row (by omega)]; exact a6 g hg k hk⟩
    rw [wI_at, if_pos ⟨rfl, rfl⟩]
    exact hv g hg
  · obtain ⟨a0, a1, a2, a3, a4, a5, told, a6, a7, a8⟩ := hM
    refine ⟨by rw [wI_at, if_neg (by omega)]; exact a0, by rw [wI_at, if_neg (by omega)]; exact a1, by rw [wI_at, if_neg (by omega)]; exact a2, fun d hd => by rw [wI_at, if_neg (by omega)]; exact a3 d hd, fun g hg => ?_, fun g hg d hd => by rw [wI_at, if_neg (by omega)]; exact a5 g hg d hd, told, fun g hg k hk => by rw [wI_at, if_neg (by omega)]; exact a6 g hg k hk, a7, a8⟩
    show _ = if (if g = f then b else suO τ g) then 1 else 0
    rw [wI_at]
    by_cases e : g = f
    · rw [if_pos ⟨rfl, by omega⟩, if_pos e]
    · rw [if_neg (by omega), if_neg e]; exact a4 g hg
theorem p_setOn : LS_setOn RR := by
  intro X M a1 h
  obtain ⟨τ, h1, h2, h3, h4⟩ := id h
  have h6 := h1.1.2.2.1
  have f1 : suF τ < 2147483648 := by omega
  have eMf : M.1 1 34 = nI (suF τ) := h1.2.2.2.2.1
  have go : ∀ (x2 : Int32) (b : Bool), ((x2 = 0 ∧ b = false) ∨ (¬ x2 = 0 ∧ b = true)) → f_X5_setOn a1 x2 X (fun r1 X1 => f_X6_setOn a1 x2 M (fun r2 M1 => r1 = r2 ∧ RR X1 M1)) := by
    intro x2 b hb G29 h29
    refine s_hasFeature f1 h1.2.1.2.2.1 (fun q => u1 ?_) (fun q => u0 ?_)
    · obtain ⟨f, hf, rfl⟩ := id q
      refine s_isOn (by omega) (h1.2.1.2.2.2.1 f (by omega)) ?_
      have key : ∀ z0, z0 = (if suO τ f then (1 : Int32) else 0) → G29 (nI f) x2 z0 X := by
        intro z0 hz
        refine h29 _ _ _ _ ?_
        have fin : ∀ X1 : Mem, (∃ v, X1 = wI X 1 3 v ∧ ∀ g, g < 32 → bt v g = upO (suO τ) f b g) → f_X6_setOn (nI f) x2 M (fun r2 M1 => z0 = r2 ∧ RR X1 M1) := by
          intro X1 ⟨v, e, hv⟩ G25 h25
          refine s_isFeature f1 eMf (fun _ => u1 ?_) (fun c => absurd q c)
          have go2 : ∀ z : Int32, z = (if b then 1 else 0) → G25 z (35 + 34 * nI f + 0) M := by
            intro z hz2
            refine h25 _ _ _ ?_
            have ei : (35 + 34 * nI f + 0 : Int32) = nI (35 + 34 * f) := at_eq f 0
            rw [ei]
            refine ⟨v_in (by omega) (by omega), fun y ey => ⟨v_in (by omega) (by omega), fun M1 eM1 => ?_⟩⟩
            rw [q_cl (by omega)] at ey eM1
            have em := h1.2.2.2.2.2.2.1 f hf
            rw [Nat.zero_add] at em
            refine ⟨by rw [hz, ey, em], ?_⟩
            subst e; subst eM1; subst hz2
            exact RR_of h2 h3 h4 (RS_setO h1 hf hv) rfl (fun p hp => wI_row (by omega)) (fun p hp => wI_row hp)
          rcases hb with ⟨q1, q2⟩ | ⟨q1, q2⟩
          · exact ⟨fun _ => go2 0 (by rw [q2]; rfl), fun c => absurd q1 c⟩
          · exact ⟨fun c => absurd c q1, fun _ => go2 1 (by rw [q2]; rfl)⟩
        refine ⟨fun c X1 e => fin X1 ⟨_, e, fun g hg => ?_⟩, fun c X1 e => fin X1 ⟨_, e, fun g hg => ?_⟩⟩
        · rw [bt_off (by omega) hg, h1.2.1.2.2.2.1 g hg]
          rcases hb with ⟨_, q2⟩ | ⟨q1, _⟩
          · rw [q2]; rfl
          · exact absurd c q1
        · rw [bt_on (by omega) hg, h1.2.1.2.2.2.1 g hg]
          rcases hb with ⟨q1, _⟩ | ⟨_, q2⟩
          · exact absurd q1 c
          · rw [q2]; rfl
      cases ho : suO τ f
      · rw [ho] at key
        exact t0 (key 0 rfl)
      · rw [ho] at key
        exact t1 (key 1 rfl)
    · intro G25 h25
      exact s_isFeature f1 eMf (fun c => absurd c q) (fun _ => u0 ⟨rfl, h⟩)
  exact ⟨go 0 false (Or.inl ⟨rfl, rfl⟩), go 1 true (Or.inr ⟨by decide, rfl⟩)⟩
