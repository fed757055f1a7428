/-! the whole text, by the reference; faultPosition and read -/
theorem txtM {M : Mem} {n k tl : Nat} {td : Nat → Nat} {K : Int32 → Mem → Prop} {G : Int32 → Mem → Prop} (hG : ∀ (b1 : Int32) (μ : Mem), ((b1 = 0 → (isB b1 ∧ K b1 μ)) ∧ (¬ b1 = 0 → (((μ.1 0 6) ≤ (μ.1 0 7) → (isB b1 ∧ K b1 μ)) ∧ (¬ (μ.1 0 6) ≤ (μ.1 0 7) → (f_X6_isChange  μ (fun r9 μ10 => G r9 μ10)))))) → G b1 μ) (hn0 : 1 ≤ n) (hn : n ≤ 8) (hk : k ≤ 4) (ht : tl ≤ 80) (htd : ∀ i, i < tl → td i < 128) : ∀ (m : Nat) (E : Nat → Int32) (p cnt : Nat) (Y : Mem), tl < p + m → p ≤ tl → bM M n k tl cnt p td E Y → (∀ c, c < 32 → okE n (E c)) → (∀ q, txt n k tl td m E p cnt = .inl q → ∀ Z, sM M Z → Z.1 0 7 = nI q → K 0 Z) → (∀ E' cnt', txt n k tl td m E p cnt = .inr (E', cnt') → ∀ p' Z, bM M n k tl cnt' p' td E' Z → K 1 Z) → G 1 Y
  | 0, E, p, cnt, Y, h1, h2, h3, h4, h5, h6 => absurd h1 (by omega)
  | m + 1, E, p, cnt, Y, h1, h2, h3, h4, h5, h6 => by
    unfold txt at h5 h6
    refine hG _ _ ⟨fun z => absurd z (by decide), fun _ => ?_⟩
    rw [h3.2.2.2.1, h3.2.2.2.2.1, q_le (by omega) (by omega)]
    refine ⟨fun e => ?_, fun e => ?_⟩
    · rw [if_pos e] at h6
      exact ⟨isB_1, h6 E cnt rfl p Y h3⟩
    · rw [if_neg e] at h5 h6
      refine chgM h3 h4 hn0 hn hk ht htd (by omega) (fun q hq Z hZ h7 => ?_) (fun p' c v hc Z hZ => ?_)
      · rw [hq] at h5
        exact hG _ _ ⟨fun _ => ⟨isB_0, h5 q rfl Z hZ h7⟩, fun z => absurd rfl z⟩
      · rw [hc] at h5 h6
        have := chg_ok hn hk hc
        refine txtM hG hn0 hn hk ht htd m (upd E c v) p' (cnt+1) Z (by omega) (by omega) hZ (fun d hd => ?_) h5 h6
        rw [upd_at]
        by_cases e : d = c
        · rw [if_pos e]; exact Or.inr this.2.2.2
        · rw [if_neg e]; exact h4 d hd
theorem s_isText {M : Mem} {n k tl : Nat} {td : Nat → Nat} {K : Int32 → Mem → Prop} (hn0 : 1 ≤ n) (hn : n ≤ 8) (hk : k ≤ 4) (ht : tl ≤ 80) (htd : ∀ i, i < tl → td i < 128) (e0 : M.1 1 0 = nI n) (ek : M.1 1 1 = nI k) (e1 : M.1 0 6 = nI tl) (e2 : ∀ i, i < tl → M.1 5 i = nI (td i)) (hbad : ∀ q, txt n k tl td 81 (fun _ => -2) 0 0 = .inl q → ∀ Z, sM M Z → Z.1 0 7 = nI q → K 0 Z) (hok : ∀ E cnt, txt n k tl td 81 (fun _ => -2) 0 0 = .inr (E, cnt) → ∀ p Z, bM M n k tl cnt p td E Z → K 1 Z) : f_X6_isText M K := by
  intro G12 G33 h12 h33 M1 f1 M2 f2
  refine lp_up (fun j (s : Mem) => G12 (nI j) s) (fun j s => sM M s ∧ s.1 0 7 = nI 0 ∧ s.1 0 9 = nI 0 ∧ (∀ c, c < j → s.1 6 c = -1)) 32 ?_ ?_ 0 M2 (by omega) ?_
  · intro s ⟨s1, s2, s3, s4⟩
    refine h12 _ _ ⟨fun _ => ?_, fun c => absurd (Int32.le_refl 32) c⟩
    refine txtM h33 hn0 hn hk ht htd 81 (fun _ => -2) 0 0 s (by omega) (by omega) ⟨s1, ?_, ?_, ?_, s2, s3, fun c hc => s4 c hc, fun i hi => ?_⟩ (fun c hc => Or.inl rfl) hbad hok
    · rw [s1.1 1 (by omega) (by omega)]; exact e0
    · rw [s1.1 1 (by omega) (by omega)]; exact ek
    · rw [s1.2.2]; exact e1
    · rw [s1.1 5 (by omega) (by omega)]; exact e2 i hi
  · intro j s hj ⟨s1, s2, s3, s4⟩ ih
    have hc : ¬ (32 : Int32) ≤ nI j := by
      show ¬ nI 32 ≤ nI j
      rw [q_le (by omega) (by omega)]
      omega
    refine h12 _ _ ⟨fun c => absurd c hc, fun _ => ⟨v_in hj (by omega), fun s' e y ey => ?_⟩⟩
    rw [q_cl (by omega)] at e
    rw [ey, nI_1]
    apply ih
    subst e
    refine ⟨sM_wI s1 (by omega) _ _, by rw [wI_row (by omega)]; exact s2, by rw [wI_row (by omega)]; exact s3, fun c hc => ?_⟩
    rw [wI_at]
    by_cases e : c = j
    · rw [if_pos ⟨rfl, e⟩]
    · rw [if_neg (fun z => e z.2)]; exact s4 c (by omega)
  · subst f2; subst f1
    refine ⟨sM_0 (sM_0 (sM.rf M) (by omega) _) (by omega) _, ?_, ?_, fun c hc => absurd hc (by omega)⟩
    · rw [wI_at, if_neg (by omega), wI_at, if_pos ⟨rfl, rfl⟩]; rfl
    · rw [wI_at, if_pos ⟨rfl, rfl⟩]; rfl
theorem p_faultPosition : LS_faultPosition RR := by
  intro X M h
  obtain ⟨τ, h1, h2, h3, tl, td, h4, h5, h6, h7⟩ := id h
  unfold f_X5_faultPosition
  rw [h1.2.1.1, h1.2.1.2.1]
  have hn := h1.1.1
  have hk := h1.1.2.1
  refine s_parse hn.2 hk.2 h4 (fun i hi => (h7 i hi).1) h5 (fun i hi => (h7 i hi).2.1) (fun q hq X' hX => ?_) (fun E cnt hq X' hX => ?_)
  · refine s_isText hn.1 hn.2 hk.2 h4 (fun i hi => (h7 i hi).1) h1.2.2.1 h1.2.2.2.1 h6 (fun i hi => (h7 i hi).2.2) (fun q' hq' M' hM e7 => ?_) (fun E cnt hq' => by rw [hq] at hq'; cases hq')
    rw [hq] at hq'
    cases hq'
    exact t0 ⟨e7.symm, h.fr hX hM⟩
  · refine s_isText hn.1 hn.2 hk.2 h4 (fun i hi => (h7 i hi).1) h1.2.2.1 h1.2.2.2.1 h6 (fun i hi => (h7 i hi).2.2) (fun q' hq' => by rw [hq] at hq'; cases hq') (fun E' cnt' hq' p M' hM => ?_)
    exact t1 ⟨rfl, h.fr hX.1 hM.1⟩
/-- the base under the changes of a text -/
def onB (b E : Nat → Int32) : Nat → Int32 := fun c => if E c = -2 then b c else E c
theorem RS_base {X M X' M' : Mem} {τ : SU} (h : RS X 1 M 1 0 τ) {b : Nat → Int32} (hb : ∀ c, c < 32 → okA (suN τ) (b c)) (eX : ∀ c, c < 32 → X'.1 2 c = b c) (fX : ∀ p, 1 ≤ p → p ≤ 10 → p ≠ 2 → X'.1 p = X.1 p) (eM : ∀ c, c < 32 → M'.1 1 (2+c) = b c) (fM : ∀ i, (i < 2 ∨ 34 ≤ i) → M'.1 1 i = M.1 1 i) : RS X' 1 M' 1 0 (τ.1, b, τ.2.2) := by
  obtain ⟨h0, ⟨a0, a1, a2, a3, a4, a5, a6⟩, ⟨b0, b1, b2, b3, b4, b5, told, b6, b7, b8⟩⟩ := h
  have h6 := h0.2.2.1
  refine ⟨⟨h0.1, h0.2.1, h0.2.2.1, hb, h0.2.2.2.2⟩, ⟨?_, ?_, ?_, fun f hf => ?_, eX, fun f hf c hc => ?_, fun g hg f hf => ?_⟩, ⟨?_, ?_, ?_, fun c hc => ?_, fun f hf => ?_, fun f hf c hc => ?_, told, fun f hf g hg => ?_, b7, b8⟩⟩
  · rw [fX 1 (by omega) (by omega) (by omega)]; exact a0
  · rw [fX 1 (by omega) (by omega) (by omega)]; exact a1
  · rw [fX 1 (by omega) (by omega) (by omega)]; exact a2
  · rw [fX 1 (by omega) (by omega) (by omega)]; exact a3 f hf
  · have hf : f < suF τ := hf
    rw [fX _ (by omega) (by omega) (by omega)]; exact a5 f hf c hc
  · rw [fX _ (by omega) (by omega) (by omega)]; exact a6 g hg f hf
  · rw [fM _ (by omega)]; exact b0
  · rw [fM _ (by omega)]; exact b1
  · rw [fM _ (by omega)]; exact b2
  · rw [Nat.zero_add]; exact eM c hc
  · rw [fM _ (by omega)]; exact b4 f hf
  · rw [fM _ (by omega)]; exact b5 f hf c hc
  · rw [fM _ (by omega)]; exact b6 f hf g hg
theorem RS_row {X M X' M' : Mem} {τ : SU} (h : RS X 1 M 1 0 τ) {f0 : Nat} (h0f : f0 < suF τ) {E : Nat → Int32} (hE : ∀ c, c < 32 → okE (suN τ) (E c)) (eX : ∀ c, c < 32 → X'.1 (4+f0) c = E c) (fX : ∀ p, 1 ≤ p → p ≤ 10 → p ≠ 4+f0 → X'.1 p = X.1 p) (eM : ∀ c, c < 32 → M'.1 1 (35+34*f0+1+c) = encM (E c)) (fM : ∀ i, (i < 35+34*f0+1 ∨ 35+34*f0+33 ≤ i) → M'.1 1 i = M.1 1 i) : RS X' 1 M' 1 0 (τ.1, suB τ, fun f c => if f = f0 then E c else suE τ f c, τ.2.2.2) := by
  obtain ⟨h0, ⟨a0, a1, a2, a3, a4, a5, a6⟩, ⟨b0, b1, b2, b3, b4, b5, told, b6, b7, b8⟩⟩ := h
  have h6 := h0.2.2.1
  refine ⟨⟨h0.1, h0.2.1, h0.2.2.1, h0.2.2.2.1, fun f hf c hc => ?_, h0.2.2.2.2.2⟩, ⟨?_, ?_, ?_, fun f hf => ?_, fun c hc => ?_, fun f hf c hc => ?_, fun g hg f hf => ?_⟩, ⟨?_, ?_, ?_, fun c hc => ?_, fun f hf => ?_, fun f hf c hc => ?_, told, fun f hf g hg => ?_, b7, b8⟩⟩
  · show okE (suN τ) (if f = f0 then E c else suE τ f c)
    by_cases e : f = f0
    · rw [if_pos e]; exact hE c hc
    · rw [if_neg e]; exact h0.2.2.2.2.1 f hf c hc
  · rw [fX 1 (by omega) (by omega) (by omega)]; exact a0
  · rw [fX 1 (by omega) (by omega) (by omega)]; exact a1
  · rw [fX 1 (by omega) (by omega) (by omega)]; exact a2
  · rw [fX 1 (by omega) (by omega) (by omega)]; exact a3 f hf
  · rw [fX 2 (by omega) (by omega) (by omega)]; exact a4 c hc
  · have hf : f < suF τ := hf
    show _ = if f = f0 then E c else suE τ f c
    by_cases e : f = f0
    · rw [if_pos e, e]; exact eX c hc
    · rw [if_neg e, fX _ (by omega) (by omega) (by omega)]; exact a5 f hf c hc
  · rw [fX _ (by omega) (by omega) (by omega)]; exact a6 g hg f hf
  · rw [fM _ (by omega)]; exact b0
  · rw [fM _ (by omega)]; exact b1
  · rw [fM _ (by omega)]; exact b2
  · rw [fM _ (by omega)]; exact b3 c hc
  · rw [fM _ (by omega)]; exact b4 f hf
  · show _ = encM (if f = f0 then E c else suE τ f c)
    by_cases e : f = f0
    · rw [if_pos e, e, Nat.zero_add]; exact eM c hc
    · rw [if_neg e, fM _ (by omega)]; exact b5 f hf c hc
  · rw [fM _ (by omega)]; exact b6 f hf g hg
theorem RR_of2 {X M X' M' X0 M0 : Mem} {τ τ' : SU} (h2 : RW X M (suK τ)) (h3 : RZ X M) (h4 : RT X M) (hX : sX X X0) (hM : sM M M0) (h1 : RS X' 1 M' 1 0 τ') (hk : suK τ' = suK τ) (eX : ∀ p, p = 0 ∨ 11 ≤ p → X'.1 p = X0.1 p) (eM : ∀ p, p ≠ 1 → M'.1 p = M0.1 p) : RR X' M' :=
  ⟨τ', h1, by rw [hk]; exact h2.fr (by rw [eX 0 (by omega), hX.1 0 (by omega)]) (by rw [eX 36 (by omega), hX.1 36 (by omega)]) (by rw [eM 0 (by omega)]; exact hM.2.1) (by rw [eM 4 (by omega), hM.1 4 (by omega) (by omega)]), h3.fr (fun p a b => by rw [eX p (by omega), hX.1 p (by omega)]) (by rw [eM 2 (by omega), hM.1 2 (by omega) (by omega)]) (by rw [eM 3 (by omega), hM.1 3 (by omega) (by omega)]), h4.fr (by rw [eX 33 (by omega)]; exact hX.2) (by rw [eX 34 (by omega), hX.1 34 (by omega)]) (by rw [eM 0 (by omega)]; exact hM.2.2) (by rw [eM 5 (by omega), hM.1 5 (by omega) (by omega)])⟩
theorem chg_lt {n k tl : Nat} {td : Nat → Nat} {E : Nat → Int32} {p q : Nat} (h : chg n k tl td E p = .inl q) : q ≤ p + 6 := by
  have fin : ∀ r c v, chF tl td r c v = .inl q → q = r := by
    intro r c v hq
    unfold chF at hq
    by_cases e : r < tl ∧ td r = 59
    · rw [if_pos e] at hq; cases hq
    · rw [if_neg e] at hq; exact (Sum.inl.inj hq).symm
  unfold chg at h
  split at h
  · split at h
    · split at h
      · have := fin _ _ _ h; omega
      · split at h
        · split at h
          · split at h
            · split at h
              · have := fin _ _ _ h; omega
              · have := Sum.inl.inj h; omega
            · have := Sum.inl.inj h; omega
          · have := Sum.inl.inj h; omega
        · have := Sum.inl.inj h; omega
    · have := Sum.inl.inj h; omega
  · have := Sum.inl.inj h; omega
theorem txt_lt0 {n k tl : Nat} {td : Nat → Nat} {q : Nat} : ∀ (m : Nat) (E : Nat → Int32) (p cnt : Nat), txt n k tl td m E p cnt = .inl q → q ≤ tl + 6
  | 0, E, p, cnt, h => by cases h
  | m + 1, E, p, cnt, h => by
    unfold txt at h
    by_cases e : tl ≤ p
    · rw [if_pos e] at h; cases h
    · rw [if_neg e] at h
      cases hc : chg n k tl td E p with
      | inl x =>
        rw [hc] at h
        have := chg_lt hc
        have := Sum.inl.inj h
        omega
      | inr x =>
        obtain ⟨p', c, v⟩ := x
        rw [hc] at h
        exact txt_lt0 m _ _ _ h
theorem txt_lt {n k tl : Nat} {td : Nat → Nat} {q m : Nat} {E : Nat → Int32} {p cnt : Nat} (ht : tl ≤ 80) (h : txt n k tl td m E p cnt = .inl q) : q < 2147483648 := by
  have := txt_lt0 m E p cnt h
  omega
theorem p_read : LS_read RR := by
  intro X M a1 h
  obtain ⟨τ, h1, h2, h3, tl, td, h4, h5, h6, h7⟩ := id h
  have h8 : RT X M := ⟨tl, td, h4, h5, h6, h7⟩
  have hn := h1.1.1
  have hk := h1.1.2.1
  have hF := h1.1.2.2.1
  have f1 : suF τ < 2147483648 := by omega
  have eMf : M.1 1 34 = nI (suF τ) := h1.2.2.2.2.1
  intro G18 h18
  have main : (a1 = -1 ∨ inR a1 (suF τ)) → G18 a1 X := by
    intro ha
    refine h18 _ _ ?_
    have hneg : ¬ a1 = -1 → inR a1 (suF τ) := fun c => ha.resolve_left c
    rw [h1.2.1.1, h1.2.1.2.1]
    have mod : ∀ {K : Int32 → Mem → Prop}, (∀ (G27 : Int32 → Int32 → Mem → Prop), (∀ (b2 : Int32) (μ : Mem), ((32 ≤ b2 → (K (μ.1 0 9) μ)) ∧ (¬ 32 ≤ b2 → ((a1 < 0 → (vp_in b2 32 ∧ (((μ.1 6 (b2 : Int32).toNatClampNeg) < 0 → (∀ y20 : Int32, y20 = b2 + 1 → G27 a1 y20 μ)) ∧ (¬ (μ.1 6 (b2 : Int32).toNatClampNeg) < 0 → (vp_in (2 + b2) 239 ∧ ∀ v : Int32, ((¬ (μ.1 6 (b2 : Int32).toNatClampNeg) = 100 → v = (μ.1 6 (b2 : Int32).toNatClampNeg)) ∧ ((μ.1 6 (b2 : Int32).toNatClampNeg) = 100 → v = -1)) → ∀ y20 : Int32, y20 = b2 + 1 → G27 a1 y20 (wI μ 1 (2 + b2 : Int32).toNatClampNeg v)))))) ∧ (¬ a1 < 0 → (vp_in b2 32 ∧ (vp_in (35 + 34 * a1 + (1 + b2)) 239 ∧ ∀ y20 : Int32, y20 = b2 + 1 → G27 a1 y20 (wI μ 1 (35 + 34 * a1 + (1 + b2) : Int32).toNatClampNeg (μ.1 6 (b2 : Int32).toNatClampNeg)))))))) → G27 a1 b2 μ) → f_X6_isText M (fun r5 μ6 => (¬ r5 = 0 → (G27 a1 0 μ6)) ∧ (r5 = 0 → (K (-3) μ6)))) → f_X6_read a1 M K := by
      intro K hK G15 G27 G96 G95 h15 h27 h96 h95
      have go : G15 a1 M := by
        refine h15 _ _ (hK G27 (fun b2 μ hh => ?_))
        refine h27 _ _ _ ⟨hh.1, fun c => ⟨fun d => ?_, fun d => ?_⟩⟩
        · obtain ⟨w1, w2, w3⟩ := (hh.2 c).1 d
          refine ⟨w1, fun e => h96 _ _ _ (w2 e), fun e => ⟨w1, fun e2 => ⟨w1, ?_⟩, fun e2 => ?_⟩⟩
          · exact h95 _ _ _ _ _ ⟨(w3 e).1, fun s es => by rw [es]; exact h96 _ _ _ ((w3 e).2 _ ⟨fun _ => rfl, fun z => absurd z e2⟩)⟩
          · exact h95 _ _ _ _ _ ⟨(w3 e).1, fun s es => by rw [es]; exact h96 _ _ _ ((w3 e).2 _ ⟨fun z => absurd e2 z, fun _ => rfl⟩)⟩
        · obtain ⟨w1, w2, w3⟩ := (hh.2 c).2 d
          exact ⟨w1, w2, fun s es => by rw [es]; exact h96 _ _ _ w3⟩
      exact ⟨fun _ => go, fun c => s_isFeature f1 eMf (fun _ => u1 go) (fun z => absurd (hneg c) z)⟩
    refine s_parse hn.2 hk.2 h4 (fun i hi => (h7 i hi).1) h5 (fun i hi => (h7 i hi).2.1) (fun q hq X' hX => ?_) (fun E cnt hq X' hX => ?_)
    · refine ⟨fun c => absurd c ?_, fun _ => mod ?_⟩
      · intro z
        have h1 := congrArg Int32.toInt z
        have hql : q < 2147483648 := txt_lt h4 hq
        rw [nI_toInt (by omega)] at h1
        have h2 : ((-5 : Int32)).toInt = -5 := by decide
        rw [h2] at h1
        omega
      · intro G27 h27
        refine s_isText hn.1 hn.2 hk.2 h4 (fun i hi => (h7 i hi).1) h1.2.2.1 h1.2.2.2.1 h6 (fun i hi => (h7 i hi).2.2) (fun q' hq' M' hM e7 => ?_) (fun E cnt hq' => by rw [hq] at hq'; cases hq')
        exact u0 ⟨rfl, h.fr hX hM⟩
    · have hE : ∀ c, c < 32 → okE (suN τ) (E c) := txt_ok hn.2 hk.2 81 _ 0 0 (fun c hc => Or.inl rfl) E cnt hq
      refine ⟨fun _ => ⟨fun c => ?_, fun c => ?_⟩, fun c => absurd rfl c⟩
      · obtain ⟨f, hf, rfl⟩ := hneg c
        refine ⟨v_in (by omega) (by omega), s_copyRow _ _ _ _ ?_⟩
        rw [q_cl (by omega)]
        refine mod ?_
        intro G27 h27
        refine s_isText hn.1 hn.2 hk.2 h4 (fun i hi => (h7 i hi).1) h1.2.2.1 h1.2.2.2.1 h6 (fun i hi => (h7 i hi).2.2) (fun q' hq' => by rw [hq] at hq'; cases hq') (fun E' cnt' hq' p M' hM => u1 ?_)
        rw [hq] at hq'
        cases hq'
        refine lp_up (fun j (s : Mem) => G27 (nI f) (nI j) s) (fun j s => (∀ p, p ≠ 1 → s.1 p = M'.1 p) ∧ (∀ c, c < j → s.1 1 (35+34*f+1+c) = encM (E c)) ∧ (∀ i, (i < 35+34*f+1 ∨ 35+34*f+33 ≤ i) → s.1 1 i = M'.1 1 i)) 32 ?_ ?_ 0 M' (by omega) ⟨fun _ _ => rfl, fun c hc => absurd hc (by omega), fun _ _ => rfl⟩
        · intro s ⟨s1, s2, s3⟩
          refine h27 _ _ ⟨fun _ => ?_, fun z => absurd (Int32.le_refl 32) z⟩
          refine ⟨?_, RR_of2 h2 h3 h8 hX.1 hM.1 (RS_row h1 hf hE (fun c hc => ?_) (fun p a b d => ?_) (fun c hc => s2 c hc) (fun i hi => ?_)) rfl (fun p hp => wA_ne (by omega)) s1⟩
          · rw [wA_ne (by omega), hX.2.2.2.2.1, s1 0 (by omega)]; exact hM.2.2.2.2.2.1.symm
          · rw [wA_eq, if_pos hc]; exact hX.2.2.2.2.2.1 c hc
          · rw [wA_ne d]; exact hX.1.1 p (by omega)
          · rw [s3 i hi, hM.1.1 1 (by omega) (by omega)]
        · intro j s hj ⟨s1, s2, s3⟩ ih
          have hc : ¬ (32 : Int32) ≤ nI j := by
            show ¬ nI 32 ≤ nI j
            rw [q_le (by omega) (by omega)]
            omega
          have e1 : (1 + nI j : Int32) = nI (1 + j) := by show nI 1 + nI j = _; rw [nI_add]
          refine h27 _ _ ⟨fun z => absurd z hc, fun _ => ⟨fun z => absurd z (nI_pos (by omega)), fun _ => ⟨v_in hj (by omega), ?_⟩⟩⟩
          rw [e1, at_eq]
          refine ⟨v_in (by omega) (by omega), fun y ey => ?_⟩
          rw [ey, nI_1]
          apply ih
          rw [q_cl (by omega), q_cl (by omega)]
          refine ⟨fun p hp => by rw [wI_row hp]; exact s1 p hp, fun d hd => ?_, fun i hi => by rw [wI_at, if_neg (by omega)]; exact s3 i hi⟩
          rw [wI_at]
          by_cases e : d = j
          · rw [if_pos ⟨rfl, by omega⟩, s1 6 (by omega), e]; exact hM.2.2.2.2.2.2.1 j hj
          · rw [if_neg (by omega)]; exact s2 d (by omega)
      · subst c
        refine s_putOn _ _ _ _ _ (by omega) ?_
        refine mod ?_
        intro G27 h27
        refine s_isText hn.1 hn.2 hk.2 h4 (fun i hi => (h7 i hi).1) h1.2.2.1 h1.2.2.2.1 h6 (fun i hi => (h7 i hi).2.2) (fun q' hq' => by rw [hq] at hq'; cases hq') (fun E' cnt' hq' p M' hM => u1 ?_)
        rw [hq] at hq'
        cases hq'
        have bM0 : ∀ c, c < 32 → M'.1 1 (2 + c) = suB τ c := fun c hc => by
          rw [hM.1.1 1 (by omega) (by omega), ← h1.2.2.2.2.2.1 c hc, Nat.zero_add]
        have bX0 : ∀ c, c < 32 → X'.1 2 c = suB τ c := fun c hc => by
          rw [hX.1.1 2 (by omega)]; exact h1.2.1.2.2.2.2.1 c hc
        refine lp_up (fun j (s : Mem) => G27 (-1) (nI j) s) (fun j s => (∀ p, p ≠ 1 → s.1 p = M'.1 p) ∧ (∀ c, c < j → s.1 1 (2+c) = onB (suB τ) E c) ∧ (∀ i, (i < 2 ∨ 2 + j ≤ i) → s.1 1 i = M'.1 1 i)) 32 ?_ ?_ 0 M' (by omega) ⟨fun _ _ => rfl, fun c hc => absurd hc (by omega), fun _ _ => rfl⟩
        · intro s ⟨s1, s2, s3⟩
          refine h27 _ _ ⟨fun _ => ?_, fun z => absurd (Int32.le_refl 32) z⟩
          refine ⟨?_, RR_of2 h2 h3 h8 hX.1 hM.1 (RS_base (b := onB (suB τ) E) h1 (fun c hc => ?_) (fun c hc => ?_) (fun p a b d => ?_) (fun c hc => s2 c hc) (fun i hi => ?_)) rfl (fun p hp => wA_ne (by omega)) s1⟩
          · rw [wA_ne (by omega), hX.2.2.2.2.1, s1 0 (by omega)]; exact hM.2.2.2.2.2.1.symm
          · unfold onB
            by_cases e : E c = -2
            · rw [if_pos e]; exact h1.1.2.2.2.1 c hc
            · rw [if_neg e]; exact (hE c hc).resolve_left e
          · rw [wA_eq, if_pos hc, hX.2.2.2.2.2.1 c hc, bX0 c hc]; rfl
          · rw [wA_ne d]; exact hX.1.1 p (by omega)
          · rw [s3 i (by omega), hM.1.1 1 (by omega) (by omega)]
        · intro j s hj ⟨s1, s2, s3⟩ ih
          have hc : ¬ (32 : Int32) ≤ nI j := by
            show ¬ nI 32 ≤ nI j
            rw [q_le (by omega) (by omega)]
            omega
          have e2 : (2 + nI j : Int32) = nI (2 + j) := by show nI 2 + nI j = _; rw [nI_add]
          have eT : s.1 6 j = encM (E j) := by rw [s1 6 (by omega)]; exact hM.2.2.2.2.2.2.1 j hj
          have en := enc_neg hn.2 (hE j hj)
          refine h27 _ _ ⟨fun z => absurd z hc, fun _ => ⟨fun _ => ⟨v_in hj (by omega), ?_⟩, fun z => absurd (by decide) z⟩⟩
          rw [q_cl (by omega), eT, e2, q_cl (by omega)]
          refine ⟨fun z y ey => ?_, fun z => ⟨v_in (by omega) (by omega), fun v hv y ey => ?_⟩⟩
          · rw [ey, nI_1]
            apply ih
            refine ⟨s1, fun d hd => ?_, fun i hi => s3 i (by omega)⟩
            by_cases e : d = j
            · rw [s3 _ (by omega), e, bM0 j hj]
              unfold onB
              rw [if_pos (en.mp z)]
            · exact s2 d (by omega)
          · rw [ey, nI_1]
            apply ih
            refine ⟨fun p hp => by rw [wI_row hp]; exact s1 p hp, fun d hd => ?_, fun i hi => by rw [wI_at, if_neg (by omega)]; exact s3 i (by omega)⟩
            rw [wI_at]
            by_cases e : d = j
            · rw [if_pos ⟨rfl, by omega⟩, e]
              have hne : E j ≠ -2 := fun w => z (en.mpr w)
              unfold onB
              rw [if_neg hne]
              rcases (hE j hj).resolve_left hne with w | ⟨t, o, ht, ho, w⟩
              · rw [w] at hv ⊢
                exact hv.2 rfl
              · have hv1 : E j ≠ -1 := by rw [w, Ne, q_m1 _ (by omega)]; exact id
                have ev := enc_val hn.2 (Or.inr ⟨t, o, ht, ho, w⟩) hv1
                rw [ev] at hv
                refine hv.1 ?_
                rw [w]
                show ¬ nI (10 * t + o) = nI 100
                rw [q_eq (by omega) (by omega)]
                omega
            · rw [if_neg (by omega)]; exact s2 d (by omega)
  refine ⟨fun c => main (Or.inl c), fun c => s_hasFeature f1 h1.2.1.2.2.1 (fun q => u1 (main (Or.inr q))) (fun q => u0 ?_)⟩
  intro G15 G27 G96 G95 h15 h27 h96 h95
  exact ⟨fun z => absurd z c, fun _ => s_isFeature f1 eMf (fun z => absurd z q) (fun _ => u0 ⟨rfl, h⟩)⟩
