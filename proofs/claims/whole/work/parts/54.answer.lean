/-- which machine an answer is asked of -/
def mA (τ : SU) (x : Int32) : Nat → Int32 := if x = -2 then mO τ (roL τ) (suB τ) else if x = -1 then suB τ else mP τ x.toNatClampNeg (suB τ)
theorem ask_iff {x : Int32} {F : Nat} (hF : F ≤ 6) : (¬ x < -2 ∧ ¬ nI F - 1 < x) ↔ (x = -2 ∨ x = -1 ∨ inR x F) := by
  have e1 : (nI F - 1 : Int32).toInt = (F : Int) - 1 := pk_sub_toInt (b := 1) (by omega) (by omega)
  have e2 : (-2 : Int32).toInt = -2 := rfl
  have e3 : (-1 : Int32).toInt = -1 := rfl
  rw [Int32.lt_iff_toInt_lt, Int32.lt_iff_toInt_lt, e1, e2]
  constructor
  · rintro ⟨h1, h2⟩
    by_cases z : x.toInt = -2
    · exact Or.inl (Int32.toInt_inj.mp (by rw [z, e2]))
    · by_cases y : x.toInt = -1
      · exact Or.inr (Or.inl (Int32.toInt_inj.mp (by rw [y, e3])))
      · refine Or.inr (Or.inr ?_)
        have nx : ¬ x < 0 := by
          rw [Int32.lt_iff_toInt_lt]
          have : (0 : Int32).toInt = 0 := rfl
          omega
        obtain ⟨j, hj, rfl⟩ := nI_of nx
        rw [nI_toInt hj] at h2
        exact ⟨j, by omega, rfl⟩
  · rintro (rfl | rfl | ⟨j, hj, rfl⟩)
    · rw [e2]; omega
    · rw [e3]; omega
    · rw [nI_toInt (by omega)]; omega
theorem rowA_mA {τ : SU} (ho : okS τ) {x : Int32} (h : x = -2 ∨ x = -1 ∨ inR x (suF τ)) : rowA (suN τ) (mA τ x) := by
  have h6 : suF τ ≤ 6 := ho.2.2.1
  unfold mA
  by_cases z : x = -2
  · rw [if_pos z]; exact rowA_mO ho (roL τ) (fun x hx => roL_lt ho hx) (rowA_B ho)
  · rw [if_neg z]
    by_cases y : x = -1
    · rw [if_pos y]; exact rowA_B ho
    · rw [if_neg y]
      rcases h with h | h | ⟨j, hj, rfl⟩
      · exact absurd h z
      · exact absurd h y
      · rw [q_cl (by omega)]; exact rowA_mP ho hj (rowA_B ho)
theorem s_bmX {τ : SU} (ho : okS τ) {X : Mem} (hX : RXS X 1 τ) {x : Int32} (h : x = -2 ∨ x = -1 ∨ inR x (suF τ)) {K : Mem → Prop} (hK : ∀ X', sX X X' → isRow X' 37 (mA τ x) → K X') : f_X5_buildMachine x 37 X K := by
  have h6 : suF τ ≤ 6 := ho.2.2.1
  unfold mA at hK
  refine ⟨fun z => ⟨fun y => ?_, fun y => ?_⟩, fun z => ?_⟩
  · rcases h with h | h | ⟨j, hj, rfl⟩
    · exact absurd h z
    · exact absurd h y
    · rw [if_neg z, if_neg y] at hK
      rw [q_cl (by omega)] at hK ⊢
      refine ⟨v_in (by omega) (by omega), s_putOn' (by omega) hX.B (hX.E hj) (fun X1 r1 e1 => hK X1 ⟨fun p hp => e1 p (by omega), by rw [e1 33 (by omega)]⟩ r1)⟩
  · rw [if_neg z, if_pos y] at hK
    refine s_copyRow 2 37 X _ (hK _ (sX_wA (sX.rf X) (by omega) _) (fun c hc => ?_))
    rw [wA_eq]
    show (if c < 32 then _ else _) = _
    rw [if_pos hc]
    exact hX.B c hc
  · rw [if_pos z] at hK
    exact s_brX ho hX hK
theorem p_answer : LS_answer RR := by
  intro X M a1 a2 h
  obtain ⟨τ, h1, h2, h3, h4⟩ := id h
  have ho := h1.1
  have h6 : suF τ ≤ 6 := ho.2.2.1
  have f1 : suF τ < 2147483648 := by omega
  obtain ⟨wl, wd, hwl, w1, w2, hw⟩ := id h2
  have eF : M.1 1 (34 : Int32).toNatClampNeg = nI (suF τ) := h1.2.2.2.2.1
  intro G22 G27 h22 h27
  have bad : ¬ (a1 = -2 ∨ a1 = -1 ∨ inR a1 (suF τ)) → G27 a1 a2 0 X := by
    intro q
    refine h27 _ _ _ _ ⟨fun _ => ?_, fun c => absurd rfl c⟩
    intro G56 G69 h56 h69
    refine ⟨v_in (a := 34) (by decide) (by decide), ?_⟩
    rw [eF]
    exact s_in (fun c d => absurd ((ask_iff h6).mp ⟨c, d⟩) q) (fun _ => t0 ⟨rfl, h⟩)
  have good : (a1 = -2 ∨ a1 = -1 ∨ inR a1 (suF τ)) → G22 a1 a2 X := by
    intro q
    have hin : ∀ {K : Int32 → Mem → Prop}, K 1 M → f_X6_in a1 (-2) (M.1 1 (34 : Int32).toNatClampNeg - 1) M K := by
      intro K hK
      rw [eF]
      have := (ask_iff h6).mpr q
      exact s_in (fun _ _ => hK) (fun c => by
        rcases c with c | c
        · exact absurd c this.1
        · exact absurd c this.2)
    refine h22 _ _ _ (h27 _ _ _ _ ⟨fun c => absurd c (by decide), fun _ => ⟨fun c => ⟨fun d => ?_, fun d => ?_⟩, fun c => ?_⟩⟩)
    · -- an answer
      obtain ⟨x, hx, rfl⟩ := nI_of (nn_lt c)
      rw [w1, q_lt (by omega) (by omega)] at d
      have oA := rowA_mA ho q
      refine s_bmX ho h1.2.1 q (fun X1 sx r1 => ?_)
      refine s_ansX (n := suN τ) (k := suK τ) ho.1.2 ho.2.1.2 oA hwl (fun i hi => (hw i hi).1) r1 (by rw [sx.1 0 (by omega)]; exact w1) (fun i hi => by rw [sx.1 36 (by omega)]; exact (hw i hi).2.1) d ?_
      intro G56 G69 h56 h69
      refine ⟨v_in (a := 34) (by decide) (by decide), hin (t1 ⟨fun _ => ⟨fun _ => ?_, fun e => absurd (by rw [w2, q_lt (by omega) (by omega)]; exact d) e⟩, fun e => absurd c e⟩)⟩
      have fin : ∀ M', sM M M' → isRow M' 7 (mA τ a1) → G69 (nI x) M' := by
        intro M' sm r7
        refine h69 _ _ (s_ansM (n := suN τ) (k := suK τ) ho.1.2 ho.2.1.2 oA hwl (fun i hi => (hw i hi).1) r7 (fun i hi => by rw [sm.1 4 (by omega) (by omega)]; exact (hw i hi).2.2) d ?_)
        exact ⟨rfl, h.fr sx sm⟩
      refine ⟨fun z => ?_, fun z => ?_⟩
      · refine s_base' (τ := τ) (by omega) h1.2.2 (fun M1 r7 e1 => ?_)
        have sm1 : sM M M1 := ⟨fun p a b => e1 p (by omega), by rw [e1 0 (by omega)], by rw [e1 0 (by omega)]⟩
        rcases q with q | q | ⟨j, hj, rfl⟩
        · exact absurd q z
        · refine h56 _ _ _ ⟨fun _ => fin M1 sm1 ?_, fun e => absurd (by rw [q]; decide) e⟩
          unfold mA
          rw [if_neg z, if_pos q]
          exact r7
        · refine h56 _ _ _ ⟨fun e => absurd e (nI_pos (by omega)), fun _ => ?_⟩
          refine s_putsOn' ho (by omega) hj (h1.2.2.fr (e1 1 (by omega))) r7 (fun M2 r8 e2 => fin M2 (sm1.tr ⟨fun p a b => e2 p (by omega), by rw [e2 0 (by omega)], by rw [e2 0 (by omega)]⟩) ?_)
          unfold mA
          rw [if_neg z, if_neg (by rw [q_m1 _ (by omega)]; exact id), q_cl (by omega)]
          exact r8
      · refine s_frm ho h1.2.2 (fun M1 sm1 r7 => ?_)
        refine h56 _ _ _ ⟨fun _ => fin M1 sm1 ?_, fun e => absurd (by rw [z]; decide) e⟩
        unfold mA
        rw [if_pos z]
        exact r7
    · intro G56 G69 h56 h69
      refine ⟨v_in (a := 34) (by decide) (by decide), hin (t1 ⟨fun _ => ⟨fun e => absurd (by rw [w2] at e; rw [w1]; exact e) d, fun _ => ⟨rfl, h⟩⟩, fun e => absurd c e⟩)⟩
    · intro G56 G69 h56 h69
      exact ⟨v_in (a := 34) (by decide) (by decide), hin (t1 ⟨fun e => absurd e c, fun _ => ⟨rfl, h⟩⟩)⟩
  refine ⟨fun z => good (Or.inr (Or.inl z)), fun z => ⟨fun y => good (Or.inl y), fun y => ?_⟩⟩
  refine s_hasFeature f1 h1.2.1.2.2.1 (fun q => t1 (good (Or.inr (Or.inr q)))) (fun q => t0 (bad ?_))
  rintro (e | e | e)
  · exact y e
  · exact z e
  · exact q e
