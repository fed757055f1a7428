/-! those that are on -/
def onL (τ : SU) : List Nat := (List.range 6).filter (suO τ)
theorem onL_F {τ : SU} (ho : okS τ) : onL τ = (List.range (suF τ)).filter (suO τ) := by
  have h6 : suF τ ≤ 6 := ho.2.2.1
  have : ∀ d, suF τ + d ≤ 6 → (List.range (suF τ + d)).filter (suO τ) = (List.range (suF τ)).filter (suO τ) := by
    intro d
    induction d with
    | zero => intro _; rfl
    | succ d ih =>
      intro hd
      rw [show suF τ + (d+1) = (suF τ + d) + 1 by omega, List.range_succ, List.filter_append, ih (by omega)]
      simp [ho.2.2.2.2.2.1 (suF τ + d) (by omega)]
  have := this (6 - suF τ) (by omega)
  rwa [show suF τ + (6 - suF τ) = 6 by omega] at this
theorem onL_le (τ : SU) : (onL τ).length ≤ 6 := by
  have := List.length_filter_le (suO τ) (List.range 6)
  rw [List.length_range] at this
  exact this
theorem onL_lt {τ : SU} (ho : okS τ) {x : Nat} (h : x ∈ onL τ) : x < suF τ ∧ suO τ x = true := by
  rw [onL_F ho] at h
  have := List.mem_filter.mp h
  exact ⟨List.mem_range.mp this.1, this.2⟩
/-- the reference's row of those -/
def TH (τ : SU) (M : Mem) : Prop := M.1 0 18 = nI (onL τ).length ∧ ∀ i x, (onL τ)[i]? = some x → M.1 14 i = nI x
theorem s_findThose {τ : SU} (ho : okS τ) {M : Mem} (hM : RMS M 1 0 τ) {K : Int32 → Mem → Prop} (hK : ∀ M', (∀ p, p ≠ 14 → p ≠ 0 → M'.1 p = M.1 p) → (∀ c, c ≠ 18 → M'.1 0 c = M.1 0 c) → TH τ M' → K (nI (fct (onL τ).length)) M') : f_X6_findThose M K := by
  intro G9 G55 h9 h55 μ1 e1
  have h6 : suF τ ≤ 6 := ho.2.2.1
  let I : Nat → Int32 × Mem → Prop := fun t s => (∀ p, p ≠ 14 → p ≠ 0 → s.2.1 p = M.1 p) ∧ (∀ c, c ≠ 18 → s.2.1 0 c = M.1 0 c) ∧ s.1 = nI (fct ((List.range t).filter (suO τ)).length) ∧ s.2.1 0 18 = nI ((List.range t).filter (suO τ)).length ∧ ∀ i x, ((List.range t).filter (suO τ))[i]? = some x → s.2.1 14 i = nI x
  refine lp_up (fun t (s : Int32 × Mem) => G9 s.1 (nI t) s.2) I (suF τ) ?_ ?_ 0 (1, μ1) (by omega) ⟨fun p a b => by show μ1.1 p = _; rw [e1, wI_row b], fun c hc => by show μ1.1 0 c = _; rw [e1, wI_at, if_neg (by omega)], rfl, by show μ1.1 0 18 = _; rw [e1, wI_at, if_pos ⟨rfl, rfl⟩]; rfl, fun i x hx => by cases hx⟩
  · intro s hs
    obtain ⟨a1, a2, a3, a4, a5⟩ := hs
    rw [← onL_F ho] at a3 a4 a5
    refine h9 _ _ _ ⟨v_in (a := 34) (by decide) (by decide), fun _ => by rw [a3]; exact hK s.2 a1 a2 ⟨a4, a5⟩, fun c => absurd (by show s.2.1 1 34 ≤ _; rw [a1 1 (by omega) (by omega), hM.2.2.1]; exact Int32.le_refl _) c⟩
  · intro t s ht hs ih
    obtain ⟨a1, a2, a3, a4, a5⟩ := hs
    have hM' : RMS s.2 1 0 τ := hM.fr (a1 1 (by omega) (by omega))
    have hl : ((List.range t).filter (suO τ)).length ≤ t := by
      have := List.length_filter_le (suO τ) (List.range t)
      rwa [List.length_range] at this
    refine h9 _ _ _ ⟨v_in (a := 34) (by decide) (by decide), fun c => absurd c (by show ¬ s.2.1 1 34 ≤ _; rw [hM'.2.2.1, q_le (by omega) (by omega)]; omega), fun _ => ?_⟩
    refine s_isOnM h6 hM' ht ?_
    cases hb : suO τ t with
    | false =>
      refine t0 (h55 _ _ _ (fun y e => ?_))
      rw [e, nI_1]
      have e2 : (List.range (t+1)).filter (suO τ) = (List.range t).filter (suO τ) := by rw [List.range_succ, List.filter_append]; simp [hb]
      exact ih s (by show _ ∧ _; rw [e2]; exact ⟨a1, a2, a3, a4, a5⟩)
    | true =>
      have e2 : (List.range (t+1)).filter (suO τ) = (List.range t).filter (suO τ) ++ [t] := by rw [List.range_succ, List.filter_append]; simp [hb]
      refine t1 ?_
      rw [a4, q_cl (by omega)]
      refine ⟨v_in (by omega) (by omega), fun μ8 e8 μ9 e9 y10 e10 => h55 _ _ _ (fun y e => ?_)⟩
      rw [e, nI_1]
      have c8 : μ8.1 0 18 = nI ((List.range t).filter (suO τ)).length := by rw [e8, wI_row (by omega)]; exact a4
      rw [c8, nI_1] at e9
      have c9 : μ9.1 0 18 = nI (((List.range t).filter (suO τ)).length + 1) := by rw [e9, wI_at, if_pos ⟨rfl, rfl⟩]
      refine ih (y10, μ9) ?_
      refine ⟨fun p a b => ?_, fun c hc => ?_, ?_, ?_, ?_⟩
      · show μ9.1 p = _
        rw [e9, wI_row b, e8, wI_row a]; exact a1 p a b
      · show μ9.1 0 c = _
        rw [e9, wI_at, if_neg (by omega), e8, wI_row (by omega)]; exact a2 c hc
      · show y10 = _
        rw [e10, c9, a3, pk_mul, e2, List.length_append]
        rfl
      · show μ9.1 0 18 = _
        rw [c9, e2, List.length_append]
        rfl
      · intro i x hx
        show μ9.1 14 i = _
        rw [e2] at hx
        rw [e9, wI_row (by omega), e8, wI_at]
        rcases Nat.lt_or_ge i ((List.range t).filter (suO τ)).length with z | z
        · rw [List.getElem?_append_left z] at hx
          rw [if_neg (by omega)]
          exact a5 i x hx
        · rw [List.getElem?_append_right z] at hx
          have : i = ((List.range t).filter (suO τ)).length := by
            rcases Nat.lt_or_ge (i - ((List.range t).filter (suO τ)).length) 1 with w | w
            · omega
            · rw [List.getElem?_eq_none (by simpa using w)] at hx; cases hx
          subst this
          rw [Nat.sub_self] at hx
          rw [if_pos ⟨rfl, rfl⟩]
          have : t = x := Option.some.inj hx
          rw [this]
/-- an order is allowed: none is behind one that it is before -/
def alw (P : Nat → Nat → Bool) : List Nat → Bool
  | [] => true
  | x :: r => r.all (fun y => !P y x) && alw P r
theorem alw_iff (P : Nat → Nat → Bool) : ∀ l : List Nat, alw P l = true ↔ ∀ (i j x y : Nat), j < i → l[i]? = some x → l[j]? = some y → P x y = false
  | [] => ⟨fun _ i j x y _ h => (by cases h), fun _ => rfl⟩
  | a :: r => by
    show (r.all (fun y => !P y a) && alw P r) = true ↔ _
    rw [Bool.and_eq_true, alw_iff P r, List.all_eq_true]
    constructor
    · rintro ⟨h1, h2⟩ i j x y hij hi hj
      cases i with
      | zero => omega
      | succ i =>
        have hi : r[i]? = some x := hi
        cases j with
        | zero =>
          have hj : a = y := Option.some.inj hj
          have := h1 x (List.mem_of_getElem? hi)
          rw [← hj]
          simpa using this
        | succ j => exact h2 i j x y (by omega) hi hj
    · intro h
      refine ⟨fun x hx => ?_, fun i j x y hij hi hj => h (i+1) (j+1) x y (by omega) hi hj⟩
      obtain ⟨i, hi⟩ := List.getElem?_of_mem hx
      have := h (i+1) 0 x a (by omega) hi rfl
      rw [this]
      rfl
theorem s_isAllowed {τ : SU} (ho : okS τ) {M : Mem} (bh : BH τ M) {l : List Nat} (hl : l.length ≤ 6) (h6 : ∀ x ∈ l, x < 6) (h18 : M.1 0 18 = nI l.length) (h15 : ∀ i x, l[i]? = some x → M.1 15 i = nI x) {K : Int32 → Mem → Prop} (hK : K (if alw (suP τ) l then 1 else 0) M) : f_X6_isAllowed M K := by
  intro G4 G14 G46 G47 h4 h14 h46 h47
  have fin : ∀ b : Int32, (b = 1 ∧ alw (suP τ) l = true ∨ b = 0 ∧ alw (suP τ) l = false) → isB b ∧ K b M := by
    rintro b (⟨e, h⟩ | ⟨e, h⟩)
    · rw [h] at hK; rw [e]; exact ⟨isB_1, hK⟩
    · rw [h] at hK; rw [e]; exact ⟨isB_0, hK⟩
  exact lp_up (fun i (b : Int32) => G4 b (nI i) M) (fun i b => (b = 1 ∧ ∀ i' j x y, i' < i → j < i' → l[i']? = some x → l[j]? = some y → suP τ x y = false) ∨ (b = 0 ∧ alw (suP τ) l = false)) l.length
    (fun b hb => by
      refine h4 _ _ _ ⟨fun _ => fin b ?_, fun c => absurd (by rw [h18]; exact Int32.le_refl _) c⟩
      rcases hb with ⟨e, h⟩ | h
      · left
        refine ⟨e, (alw_iff _ _).mpr (fun i j x y hij hi hj => h i j x y ?_ hij hi hj)⟩
        rcases Nat.lt_or_ge i l.length with z | z
        · exact z
        · rw [List.getElem?_eq_none z] at hi; cases hi
      · exact Or.inr h)
    (fun i b hi hb ih => by
      refine h4 _ _ _ ⟨fun c => absurd c (by rw [h18, q_le (by omega) (by omega)]; omega), fun _ => ?_⟩
      exact lp_up (fun j (b : Int32) => G14 b (nI i) (nI j) M) (fun j b => (b = 1 ∧ (∀ i' j x y, i' < i → j < i' → l[i']? = some x → l[j]? = some y → suP τ x y = false) ∧ ∀ j' x y, j' < j → l[i]? = some x → l[j']? = some y → suP τ x y = false) ∨ (b = 0 ∧ alw (suP τ) l = false)) i
        (fun b hb => by
          refine h14 _ _ _ _ ⟨fun _ y e => ?_, fun c => absurd (Int32.le_refl _) c⟩
          rw [e, nI_1]
          refine ih b ?_
          rcases hb with ⟨e, h1, h2⟩ | h
          · left
            refine ⟨e, fun i' j x y hi' hj => ?_⟩
            rcases Nat.lt_or_ge i' i with z | z
            · exact h1 i' j x y z hj
            · rw [show i' = i by omega] at hj ⊢
              exact h2 j x y hj
          · exact Or.inr h)
        (fun j b hj hb ihj => by
          have step : ∀ z, ((z = 1 ∧ (∀ i' j x y, i' < i → j < i' → l[i']? = some x → l[j]? = some y → suP τ x y = false) ∧ ∀ j' x y, j' < j+1 → l[i]? = some x → l[j']? = some y → suP τ x y = false) ∨ (z = 0 ∧ alw (suP τ) l = false)) → G47 (nI i) (nI j) z M := fun z hz => h47 _ _ _ _ (fun y e => by rw [e, nI_1]; exact ihj z hz)
          refine h14 _ _ _ _ ⟨fun c => absurd c (by rw [q_le (by omega) (by omega)]; omega), fun _ => ?_⟩
          rcases hb with ⟨e, h1, h2⟩ | ⟨e, h⟩
          · have gi : l[i]? = some (l[i]'(by omega)) := List.getElem?_eq_getElem _
            have gj : l[j]? = some (l[j]'(by omega)) := List.getElem?_eq_getElem _
            rw [e]
            refine ⟨fun c => absurd c (by decide), fun _ => ⟨v_in (by omega) (by omega), v_in (by omega) (by omega), ?_⟩⟩
            rw [q_cl (by omega), q_cl (by omega), h15 i _ gi, h15 j _ gj]
            refine s_isAhead ho bh (h6 _ (List.getElem_mem _)) (h6 _ (List.getElem_mem _)) ?_
            cases hp : suP τ (l[i]'(by omega)) (l[j]'(by omega)) with
            | true =>
              refine u1 (h46 _ _ _ (step 0 (Or.inr ⟨rfl, ?_⟩)))
              cases ha : alw (suP τ) l with
              | false => rfl
              | true =>
                have := (alw_iff _ _).mp ha i j _ _ hj gi gj
                rw [hp] at this
                cases this
            | false =>
              refine u0 (step 1 (Or.inl ⟨rfl, h1, fun j' x y hj' gx gy => ?_⟩))
              rcases Nat.lt_or_ge j' j with z | z
              · exact h2 j' x y z gx gy
              · rw [show j' = j by omega] at gy
                rw [gi] at gx
                rw [gj] at gy
                rw [← Option.some.inj gx, ← Option.some.inj gy]
                exact hp
          · rw [e]
            exact ⟨fun _ => h46 _ _ _ (step 0 (Or.inr ⟨rfl, h⟩)), fun c => absurd rfl c⟩)
        0 b (by omega) (by
          rcases hb with ⟨e, h⟩ | h
          · exact Or.inl ⟨e, h, fun j' x y hj' => by omega⟩
          · exact Or.inr h))
    0 1 (by omega) (Or.inl ⟨rfl, fun i' j x y hi' => by omega⟩)
theorem mem_er {U : List Nat} {q : Nat} (hq : q < U.length) (y : Nat) : y ∈ U ↔ y = U.getD q 0 ∨ y ∈ U.eraseIdx q := by
  have e : U = U.take q ++ U.getD q 0 :: U.drop (q+1) := by
    conv => lhs; rw [← List.take_append_drop q U, List.drop_eq_getElem_cons hq]
    rw [List.getD_eq_getElem?_getD, List.getElem?_eq_getElem hq]
    rfl
  have e2 : U.eraseIdx q = U.take q ++ U.drop (q+1) := List.eraseIdx_eq_take_drop_succ U q
  rw [e2]
  conv => lhs; rw [e]
  simp only [List.mem_append, List.mem_cons]
  constructor
  · rintro (h | h | h)
    · exact Or.inr (Or.inl h)
    · exact Or.inl h
    · exact Or.inr (Or.inr h)
  · rintro (h | h | h)
    · exact Or.inr (Or.inl h)
    · exact Or.inl h
    · exact Or.inr (Or.inr h)
theorem len_er {U : List Nat} {q n : Nat} (hU : U.length = n + 1) (hq : q < n + 1) : (U.eraseIdx q).length = n := by
  rw [List.length_eraseIdx, if_pos (by omega), hU]
  rfl
theorem dec_mem : ∀ (n : Nat) (U : List Nat) (c : Nat), U.length = n → c < fct n → ∀ y, y ∈ dec n U c ↔ y ∈ U
  | 0, U, c, hU, hc, y => by rw [List.eq_nil_of_length_eq_zero hU]; rfl
  | n + 1, U, c, hU, hc, y => by
    have fp := fct_pos n
    have hq : c / fct n < n + 1 := by
      rw [Nat.div_lt_iff_lt_mul fp, Nat.mul_comm]
      exact hc
    unfold dec
    rw [List.mem_cons, dec_mem n _ (c % fct n) (len_er hU hq) (Nat.mod_lt _ fp) y, mem_er (by omega : c / fct n < U.length) y]
