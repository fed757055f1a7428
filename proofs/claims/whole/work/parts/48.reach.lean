/-! what a machine reaches -/
def stp (A : Nat → Int32) (c : Nat) (S : Int32) : Int32 := if A c = -1 then S else if bt S (c/4) then S ||| (1 <<< (nI (cT (A c)) &&& 31)) else S
def psN (A : Nat → Int32) : Nat → Int32 → Int32
  | 0, S => S
  | c + 1, S => stp A c (psN A c S)
def itN (A : Nat → Int32) : Nat → Int32
  | 0 => 1
  | k + 1 => psN A 32 (itN A k)
theorem s_reachedX {n p : Nat} (h1 : 1 ≤ n) (hn : n ≤ 8) {A : Nat → Int32} (hA : rowA n A) {X : Mem} (hp : isRow X p A) (e0 : X.1 1 0 = nI n) {K : Int32 → Mem → Prop} (hK : K (itN A (n-1)) X) : f_X5_reachedStates p X K := by
  intro G4 G18 G56 h4 h18 h56
  exact lp_up (fun t (S : Int32) => G4 S (nI t) X) (fun t S => 1 ≤ t ∧ S = itN A (t-1)) n
    (fun S hS => h4 _ _ _ ⟨fun _ => by rw [hS.2]; exact hK, fun c => absurd (by rw [e0]; exact Int32.le_refl _) c⟩)
    (fun t S ht hS ih => by
      refine h4 _ _ _ ⟨fun c => absurd c (by rw [e0, q_le (by omega) (by omega)]; omega), fun _ => ?_⟩
      exact lp_up (fun c (S : Int32) => G18 S (nI t) (nI c) X) (fun c S => S = psN A c (itN A (t-1))) 32
        (fun S hs => by
          refine h18 _ _ _ _ ⟨fun _ y e => ?_, fun c => absurd (Int32.le_refl 32) c⟩
          rw [e, nI_1]
          refine ih S ⟨by omega, ?_⟩
          rw [hs, show t + 1 - 1 = (t-1)+1 by omega]
          rfl)
        (fun c S hc hs ihc => by
          have e4 : (nI c / 4 : Int32) = nI (c/4) := pk_div (d := 4) (by omega) (by omega) (by omega)
          have step : ∀ v, v = stp A c S → G56 v (nI t) (nI c) X := fun v hv => h56 _ _ _ _ (fun y e => by rw [e, nI_1]; exact ihc v (by rw [hv, hs]; rfl))
          refine h18 _ _ _ _ ⟨fun d => absurd d (by show ¬ nI 32 ≤ nI c; rw [q_le (by omega) (by omega)]; omega), fun _ => ⟨v_in hc (by omega), ?_⟩⟩
          rw [q_cl (by omega), hp c hc, e4]
          unfold stp at step
          refine ⟨fun d => step _ (by rw [if_pos d]), fun d => ?_⟩
          rw [if_neg d] at step
          refine s_hasBit (by omega) ?_
          cases hb : bt S (c/4) with
          | false => rw [hb] at step; exact t0 (step _ (by simp))
          | true =>
            rw [hb] at step
            refine t1 ⟨v_in hc (by omega), ?_⟩
            rw [hp c hc]
            unfold f_X5_targetOf
            rw [(okA_arr hn (hA c hc) d).1]
            exact fun y e => step y (by rw [e]; simp))
        0 S (by omega) hS.2)
    1 1 (by omega) ⟨by omega, rfl⟩
theorem s_reachedM {n p : Nat} (hn : n ≤ 8) {A : Nat → Int32} (hA : rowA n A) {M : Mem} (hp : isRow M p A) {K : Int32 → Mem → Prop} (hK : K (itN A 8) M) : f_X6_reached p M K := by
  intro G4 G13 G52 G53 h4 h13 h52 h53
  exact lp_up (fun t (S : Int32) => G4 S (nI t) M) (fun t S => S = itN A t) 8
    (fun S hS => h4 _ _ _ ⟨fun _ => by rw [hS]; exact hK, fun c => absurd (Int32.le_refl 8) c⟩)
    (fun t S ht hS ih => by
      refine h4 _ _ _ ⟨fun c => absurd c (by show ¬ nI 8 ≤ nI t; rw [q_le (by omega) (by omega)]; omega), fun _ => ?_⟩
      exact lp_up (fun c (S : Int32) => G13 S (nI t) (nI c) M) (fun c S => S = psN A c (itN A t)) 32
        (fun S hs => by
          refine h13 _ _ _ _ ⟨fun _ y e => ?_, fun c => absurd (Int32.le_refl 32) c⟩
          rw [e, nI_1]
          refine ih S ?_
          rw [hs]
          rfl)
        (fun c S hc hs ihc => by
          have e4 : (nI c / 4 : Int32) = nI (c/4) := pk_div (d := 4) (by omega) (by omega) (by omega)
          have step : ∀ v, S ||| v = stp A c S → G53 (nI t) (nI c) v S M := fun v hv => h53 _ _ _ _ _ (fun y1 e1 y e => by rw [e, nI_1]; exact ihc y1 (by rw [e1, hv, hs]; rfl))
          have or0 : S ||| 0 = S := b_ext (fun i hi => by rw [b_or, b_0, Bool.or_false])
          refine h13 _ _ _ _ ⟨fun d => absurd d (by show ¬ nI 32 ≤ nI c; rw [q_le (by omega) (by omega)]; omega), fun _ => ?_⟩
          rw [e4, hb_iff _ (by omega)]
          unfold stp at step
          have neg : (A c < 0) ↔ A c = -1 := by
            constructor
            · intro z
              rcases hA c hc with e | ⟨a, b, _, _, e⟩
              · exact e
              · rw [e] at z; exact absurd z (nI_pos (by omega))
            · intro z; rw [z]; decide
          refine ⟨fun d => h52 _ _ _ _ (step 0 (by rw [or0, if_neg d]; simp)), fun d => ⟨v_in hc (by omega), ?_⟩⟩
          rw [q_cl (by omega), hp c hc]
          refine ⟨fun z => h52 _ _ _ _ (step 0 (by rw [or0, if_pos (neg.mp z)])), fun z => ⟨v_in hc (by omega), ?_⟩⟩
          have z1 : ¬ A c = -1 := fun q => z (neg.mpr q)
          rw [(okA_arr hn (hA c hc) z1).1]
          exact step _ (by rw [if_neg z1, if_pos d]))
        0 S (by omega) hS)
    0 1 (by omega) rfl
/-- a round only adds, and only states -/
theorem psN_sub {n : Nat} (hn : n ≤ 8) {A : Nat → Int32} (hA : rowA n A) {S : Int32} (hS : ∀ i, i < 32 → bt S i = true → i < n) : ∀ c, c ≤ 32 → (∀ i, i < 32 → bt S i = true → bt (psN A c S) i = true) ∧ ∀ i, i < 32 → bt (psN A c S) i = true → i < n
  | 0, _ => ⟨fun _ _ q => q, hS⟩
  | c + 1, hc => by
    have ih := psN_sub hn hA hS c (by omega)
    unfold psN stp
    by_cases z : A c = -1
    · rw [if_pos z]; exact ih
    · rw [if_neg z]
      by_cases y : bt (psN A c S) (c/4) = true
      · rw [if_pos y]
        have ht := (okA_arr hn (hA c (by omega)) z).2.2.1
        refine ⟨fun i hi q => ?_, fun i hi q => ?_⟩
        · rw [b_or, ih.1 i hi q]; rfl
        · rw [b_or, bt_sh (by omega) hi, Bool.or_eq_true, decide_eq_true_eq] at q
          rcases q with q | q
          · exact ih.2 i hi q
          · omega
      · rw [if_neg y]; exact ih
theorem itN_sub {n : Nat} (h1 : 1 ≤ n) (hn : n ≤ 8) {A : Nat → Int32} (hA : rowA n A) : ∀ j, ∀ i, i < 32 → bt (itN A j) i = true → i < n
  | 0, i, hi, q => by
    have : bt 1 i = true := q
    rw [bt_1 (by omega)] at this
    have : i = 0 := by simpa using this
    omega
  | j + 1, i, hi, q => (psN_sub hn hA (itN_sub h1 hn hA j) 32 (by omega)).2 i hi q
theorem cnt_mono {g g' : Nat → Bool} : ∀ k, (∀ c, c < k → g c = true → g' c = true) → cntB g k ≤ cntB g' k
  | 0, _ => Nat.le_refl _
  | k + 1, h => by
    have ih := cnt_mono k (fun c hc => h c (by omega))
    have hk := h k (by omega)
    unfold cntB
    cases h1 : g k with
    | false => simp; omega
    | true => rw [hk h1]; simp; exact ih
theorem cnt_strict {g g' : Nat → Bool} : ∀ k, (∀ c, c < k → g c = true → g' c = true) → ∀ i, i < k → g i = false → g' i = true → cntB g k < cntB g' k
  | 0, _, i, hi, _, _ => by omega
  | k + 1, h, i, hi, h1, h2 => by
    have m := cnt_mono k (fun c hc => h c (by omega))
    by_cases e : i = k
    · subst e
      rw [cntB_f h1, cntB_t h2]
      omega
    · have ih := cnt_strict k (fun c hc => h c (by omega)) i (by omega) h1 h2
      have hk := h k (by omega)
      unfold cntB
      cases h3 : g k with
      | false => simp; omega
      | true => rw [hk h3]; simp; exact ih
theorem itN_grow {n : Nat} (h1 : 1 ≤ n) (hn : n ≤ 8) {A : Nat → Int32} (hA : rowA n A) : ∀ j, itN A (j+1) = itN A j ∨ j + 1 ≤ cntB (bt (itN A j)) n
  | 0 => by
    right
    have : cntB (fun _ => false) n < cntB (bt (itN A 0)) n := cnt_strict n (fun c _ q => by cases q) 0 (by omega) rfl (by show bt 1 0 = true; decide)
    omega
  | j + 1 => by
    rcases itN_grow h1 hn hA j with ih | ih
    · left
      show psN A 32 (itN A (j+1)) = itN A (j+1)
      rw [ih]
      exact ih
    · by_cases e : itN A (j+1) = itN A j
      · left
        show psN A 32 (itN A (j+1)) = itN A (j+1)
        rw [e]
        exact e
      · right
        have sub := psN_sub hn hA (itN_sub h1 hn hA j) 32 (by omega)
        have : ∃ i, i < n ∧ bt (itN A j) i = false ∧ bt (itN A (j+1)) i = true := by
          refine Classical.byContradiction (fun hc => e (b_ext (fun i hi => ?_)))
          cases hb : bt (itN A j) i with
          | true => exact sub.1 i hi hb
          | false =>
            cases hb' : bt (itN A (j+1)) i with
            | false => rfl
            | true => exact absurd ⟨i, sub.2 i hi hb', hb, hb'⟩ hc
        obtain ⟨i, hi, b1, b2⟩ := this
        have := cnt_strict n (fun c hc q => sub.1 c (by omega) q) i hi b1 b2
        have : cntB (bt (itN A j)) n < cntB (bt (itN A (j+1))) n := this
        omega
theorem itN_fix {n : Nat} (h1 : 1 ≤ n) (hn : n ≤ 8) {A : Nat → Int32} (hA : rowA n A) : ∀ d, itN A (n - 1 + d) = itN A (n - 1)
  | 0 => rfl
  | d + 1 => by
    have st : itN A (n - 1 + 1) = itN A (n-1) := by
      rcases itN_grow h1 hn hA (n-1) with e | e
      · exact e
      · -- all states are there
        have sub := psN_sub hn hA (itN_sub h1 hn hA (n-1)) 32 (by omega)
        refine b_ext (fun i hi => ?_)
        have all : ∀ i, i < n → bt (itN A (n-1)) i = true := by
          intro i hi
          cases hb : bt (itN A (n-1)) i with
          | true => rfl
          | false =>
            have := cnt_strict (g' := fun _ => true) n (fun c _ _ => rfl) i hi hb rfl
            have := cntB_le (fun _ => true) n
            omega
        rcases Nat.lt_or_ge i n with z | z
        · rw [all i z]; exact sub.1 i hi (all i z)
        · cases hb : bt (itN A (n - 1 + 1)) i with
          | true => have := sub.2 i hi hb; omega
          | false =>
            cases hb' : bt (itN A (n-1)) i with
            | false => rfl
            | true => have := itN_sub h1 hn hA (n-1) i hi hb'; omega
    have ih := itN_fix h1 hn hA d
    show psN A 32 (itN A (n - 1 + d)) = _
    rw [ih]
    exact st
theorem itN_8 {n : Nat} (h1 : 1 ≤ n) (hn : n ≤ 8) {A : Nat → Int32} (hA : rowA n A) : itN A 8 = itN A (n-1) := by
  have := itN_fix h1 hn hA (8 - (n-1))
  rwa [show n - 1 + (8 - (n-1)) = 8 by omega] at this
def rcT (τ : SU) (f : Nat) : Nat := cntB (fun c => decide (suE τ f c ≠ -2) && bt (itN (suB τ) (suN τ - 1) ||| itN (mP τ f (suB τ)) (suN τ - 1)) (c/4)) 32
theorem s_reachX {τ : SU} (ho : okS τ) {X : Mem} (hX : RXS X 1 τ) {f : Nat} (hf : f < suF τ) {K : Int32 → Mem → Prop} (hK : ∀ X', sX X X' → K (nI (rcT τ f)) X') : f_X5_reach (nI f) X K := by
  intro G65 G95 h65 h95
  have h6 : suF τ ≤ 6 := ho.2.2.1
  have h8 : suN τ ≤ 8 := ho.1.2
  refine s_hasFeature (n := suF τ) (by omega) hX.2.2.1 (fun _ => u1 ⟨v_in (by omega) (by omega), ?_⟩) (fun c => absurd ⟨f, hf, rfl⟩ c)
  rw [q_cl (by omega)]
  refine s_putOn' (τ := τ) (f := f) (by omega) hX.B (hX.E hf) (fun X1 r1 e1 => ?_)
  have n1 : X1.1 1 0 = nI (suN τ) := by rw [e1 1 (by omega)]; exact hX.1
  refine s_reachedX (n := suN τ) ho.1.1 h8 (rowA_B ho) (fun c hc => by rw [e1 2 (by omega)]; exact hX.B c hc) n1 ?_
  refine s_reachedX (n := suN τ) ho.1.1 h8 (rowA_mP ho hf (rowA_B ho)) r1 n1 ?_
  intro y11 e11
  have sx : sX X X1 := ⟨fun p hp => e1 p (by omega), by rw [e1 33 (by omega)]⟩
  exact lp_up (fun c (s : Int32) => G65 y11 s (nI c) X1) (fun c s => s = nI (cntB (fun c => decide (suE τ f c ≠ -2) && bt (itN (suB τ) (suN τ - 1) ||| itN (mP τ f (suB τ)) (suN τ - 1)) (c/4)) c)) 32
    (fun s hs => h65 _ _ _ _ ⟨fun _ => by rw [hs]; exact hK X1 sx, fun c => absurd (Int32.le_refl 32) c⟩)
    (fun c s hc hs ih => by
      have e4 : (nI c / 4 : Int32) = nI (c/4) := pk_div (d := 4) (by omega) (by omega) (by omega)
      have eE : X1.1 (4+f) c = suE τ f c := by rw [e1 _ (by omega)]; exact hX.E hf c hc
      have step : ∀ v, v = nI (cntB (fun c => decide (suE τ f c ≠ -2) && bt (itN (suB τ) (suN τ - 1) ||| itN (mP τ f (suB τ)) (suN τ - 1)) (c/4)) (c+1)) → G95 y11 v (nI c) X1 := fun v hv => h95 _ _ _ _ (fun y e => by rw [e, nI_1]; exact ih v hv)
      refine h65 _ _ _ _ ⟨fun d => absurd d (by show ¬ nI 32 ≤ nI c; rw [q_le (by omega) (by omega)]; omega), fun _ => ⟨v_in hc (by omega), ?_⟩⟩
      rw [q_cl (show f < 2147483648 by omega), q_cl (show c < 2147483648 by omega), eE, e4]
      refine ⟨fun d => step _ (by rw [hs, cntB_f (by simp [d])]), fun d => ?_⟩
      refine s_hasBit (by omega) ?_
      rw [e11]
      cases hb : bt (itN (suB τ) (suN τ - 1) ||| itN (mP τ f (suB τ)) (suN τ - 1)) (c/4) with
      | false => exact t0 (by rw [← e11]; exact step _ (by rw [hs, cntB_f (by rw [hb]; simp)]))
      | true => exact t1 (fun y e => by rw [← e11]; exact step _ (by rw [e, hs, nI_1, cntB_t (by rw [hb]; simp [d])])))
    0 0 (by omega) rfl
theorem s_reachM {τ : SU} (ho : okS τ) {M : Mem} (hM : RMS M 1 0 τ) {f : Nat} (hf : f < suF τ) {K : Int32 → Mem → Prop} (hK : ∀ M', sM M M' → K (nI (rcT τ f)) M') : f_X6_reachNow (nI f) M K := by
  intro G42 G82 G83 h42 h82 h83
  have h6 : suF τ ≤ 6 := ho.2.2.1
  have h8 : suN τ ≤ 8 := ho.1.2
  refine s_base' (τ := τ) (by omega) hM (fun M1 r1 e1 => ?_)
  refine s_reachedM (n := suN τ) h8 (rowA_B ho) r1 ?_
  refine s_putsOn' ho (by omega) hf (hM.fr (e1 1 (by omega))) r1 (fun M2 r2 e2 => ?_)
  refine s_reachedM (n := suN τ) h8 (rowA_mP ho hf (rowA_B ho)) r2 ?_
  rw [itN_8 ho.1.1 h8 (rowA_B ho), itN_8 ho.1.1 h8 (rowA_mP ho hf (rowA_B ho))]
  intro y9 e9
  have fr : ∀ p, p ≠ 7 → M2.1 p = M.1 p := fun p hp => by rw [e2 p hp, e1 p hp]
  have sm : sM M M2 := ⟨fun p a b => fr p (by omega), by rw [fr 0 (by omega)], by rw [fr 0 (by omega)]⟩
  exact lp_up (fun c (s : Int32) => G42 (nI f) y9 s (nI c) M2) (fun c s => s = nI (cntB (fun c => decide (suE τ f c ≠ -2) && bt (itN (suB τ) (suN τ - 1) ||| itN (mP τ f (suB τ)) (suN τ - 1)) (c/4)) c)) 32
    (fun s hs => h42 _ _ _ _ _ ⟨fun _ => by rw [hs]; exact hK M2 sm, fun c => absurd (Int32.le_refl 32) c⟩)
    (fun c s hc hs ih => by
      have e4 : (nI c / 4 : Int32) = nI (c/4) := pk_div (d := 4) (by omega) (by omega) (by omega)
      have eE : M2.1 1 (35+34*f+1+c) = encM (suE τ f c) := by
        rw [fr 1 (by omega)]
        have := hM.2.2.2.2.2.1 f hf c hc
        rwa [Nat.zero_add] at this
      have nn := encM_nn h8 (ho.2.2.2.2.1 f hf c hc)
      have neg : (encM (suE τ f c) < 0) ↔ suE τ f c = -2 := by
        have : ¬ (0 ≤ encM (suE τ f c)) ↔ encM (suE τ f c) < 0 := by
          rw [Int32.le_iff_toInt_le, Int32.lt_iff_toInt_lt]
          have : (0 : Int32).toInt = 0 := rfl
          omega
        rw [← this, nn]
        simp
      have step : ∀ z, s + z = nI (cntB (fun c => decide (suE τ f c ≠ -2) && bt (itN (suB τ) (suN τ - 1) ||| itN (mP τ f (suB τ)) (suN τ - 1)) (c/4)) (c+1)) → G83 (nI f) y9 (nI c) z s M2 := fun z hv => h83 _ _ _ _ _ _ (fun y1 e1 y e => by rw [e, nI_1]; exact ih y1 (by rw [e1, hv]))
      have add0 : ∀ n : Nat, (nI n + 0 : Int32) = nI n := fun n => by show nI n + nI 0 = _; rw [nI_add]; rfl
      refine h42 _ _ _ _ _ ⟨fun d => absurd d (by show ¬ nI 32 ≤ nI c; rw [q_le (by omega) (by omega)]; omega), fun _ => ?_⟩
      unfold f_X6_at
      have e1' : (1 + nI c : Int32) = nI (1 + c) := by show nI 1 + nI c = _; rw [nI_add]
      rw [e1', at_eq]
      refine ⟨v_in (by omega) (by omega), ?_⟩
      rw [q_cl (by omega), show 35 + 34 * f + (1 + c) = 35 + 34 * f + 1 + c by omega, eE, neg, e4, hb_iff _ (by omega)]
      refine ⟨fun d => h82 _ _ _ _ _ (step 0 (by rw [hs, cntB_f (by simp [d]), add0])), fun d => ?_⟩
      refine ⟨fun b => h82 _ _ _ _ _ (step 0 (by rw [hs, cntB_f (by rw [← e9]; simp [b]), add0])), fun b => step 1 (by rw [hs, nI_1, cntB_t (by rw [← e9, b]; simp [d])])⟩)
    0 0 (by omega) rfl
theorem p_reach : LS_reach RR := by
  intro X M a1 h
  obtain ⟨τ, h1, h2, h3, h4⟩ := id h
  have h6 := h1.1.2.2.1
  have f1 : suF τ < 2147483648 := by omega
  by_cases q : inR a1 (suF τ)
  · obtain ⟨f, hf, rfl⟩ := id q
    refine s_reachX h1.1 h1.2.1 hf (fun X' sx => ?_)
    refine s_isFeature f1 h1.2.2.2.2.1 (fun _ => t1 ?_) (fun c => absurd q c)
    exact s_reachM h1.1 h1.2.2 hf (fun M' sm => ⟨rfl, h.fr sx sm⟩)
  · intro G65 G95 h65 h95
    refine s_hasFeature f1 h1.2.1.2.2.1 (fun c => absurd c q) (fun _ => u0 ?_)
    exact s_isFeature f1 h1.2.2.2.2.1 (fun c => absurd c q) (fun _ => t0 ⟨rfl, h⟩)
