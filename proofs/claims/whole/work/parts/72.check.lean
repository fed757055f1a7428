/-! the checksum -/
def mx (a : Int64) (x : Int32) : Int64 := (31 * a) + x.toInt64
def mxL (a : Int64) : List Nat → Int64
  | [] => a
  | y :: r => mxL (mx a (nI y)) r
def mxO (a : Int64) : Option (List Nat) → Int64
  | none => a
  | some w => mxL a w
theorem s_mdX {k : Nat} {r : Option (List Nat)} {X : Mem} (h : WO k r (X.1 41) (X.1 42)) {a : Int64} {K : Int64 → Mem → Prop} (hK : K (mxO a r) X) : f_X5_mixDifference a X K := by
  intro G5 h5
  cases r with
  | none =>
    have h : X.1 41 0 = 0 := h
    exact h5 _ _ _ ⟨fun _ => hK, fun c => absurd (by rw [h]; exact Int32.le_refl 0) c⟩
  | some w =>
    obtain ⟨p1, p2, p3, p4⟩ : 0 < w.length ∧ w.length ≤ 64 ∧ X.1 41 0 = nI w.length ∧ ∀ i y, w[i]? = some y → X.1 42 i = nI y ∧ y < k := h
    have go : ∀ (r i : Nat) (a : Int64), i + r = w.length → K (mxL a (w.drop i)) X → G5 a (nI i) X := by
      intro r
      induction r with
      | zero =>
        intro i a hi hk
        rw [List.drop_eq_nil_of_le (by omega)] at hk
        exact h5 _ _ _ ⟨fun _ => hk, fun c => absurd (by rw [p3, q_le (by omega) (by omega)]; omega) c⟩
      | succ r ih =>
        intro i a hi hk
        have hl : i < w.length := by omega
        rw [List.drop_eq_getElem_cons hl] at hk
        have hg := p4 i _ (List.getElem?_eq_getElem hl)
        refine h5 _ _ _ ⟨fun c => absurd c (by rw [p3, q_le (by omega) (by omega)]; omega), fun _ => ?_⟩
        refine ⟨fun c => absurd c (nI_pos (by omega)), fun _ => ⟨fun c => absurd c (by rw [p3, q_le (by omega) (by omega)]; omega), fun _ => ⟨v_in (by omega) (by omega), ?_⟩⟩⟩
        rw [q_cl (by omega), hg.1]
        intro y e
        rw [e, nI_1]
        exact ih (i+1) _ (by omega) hk
    exact go w.length 0 a (by omega) hK
theorem s_maM {r : Option (List Nat)} {v : Int32} {M : Mem} (h : WM r v (M.1 13)) (hl : ∀ w, r = some w → w.length ≤ 65) {a : Int64} {K : Int64 → Mem → Prop} (hK : K (mxO a r) M) : f_X6_moreApart a v M K := by
  intro G6 h6
  cases r with
  | none =>
    have h : v = 0 := h
    exact h6 _ _ _ _ ⟨fun _ => hK, fun c => absurd (by rw [h]; exact Int32.le_refl 0) c⟩
  | some w =>
    obtain ⟨p3, p4⟩ : v = nI w.length ∧ ∀ i y, w[i]? = some y → M.1 13 i = nI y := h
    have p2 := hl w rfl
    have go : ∀ (r i : Nat) (a : Int64), i + r = w.length → K (mxL a (w.drop i)) M → G6 v a (nI i) M := by
      intro r
      induction r with
      | zero =>
        intro i a hi hk
        rw [List.drop_eq_nil_of_le (by omega)] at hk
        exact h6 _ _ _ _ ⟨fun _ => hk, fun c => absurd (by rw [p3, q_le (by omega) (by omega)]; omega) c⟩
      | succ r ih =>
        intro i a hi hk
        have hl : i < w.length := by omega
        rw [List.drop_eq_getElem_cons hl] at hk
        refine h6 _ _ _ _ ⟨fun c => absurd c (by rw [p3, q_le (by omega) (by omega)]; omega), fun _ => ⟨v_in (by omega) (by omega), ?_⟩⟩
        rw [q_cl (by omega), p4 i _ (List.getElem?_eq_getElem hl)]
        intro y e
        rw [e, nI_1]
        exact ih (i+1) _ (by omega) hk
    exact go w.length 0 a (by omega) hK
theorem s_mroX {τ : SU} (ho : okS τ) {X : Mem} (hX : RXS X 1 τ) {a : Int64} {K : Int64 → Mem → Prop} (hK : ∀ X', sX X X' → K (mxL a (roL τ)) X') : f_X5_mixResolvedOrder a X K := by
  intro G11 h11
  have l6 := onL_le τ
  have rl := roL_len τ
  refine s_frX ho hX (fun X' e' h39 => ?_)
  have sx : sX X X' := ⟨fun p hp => e' p (by omega), by rw [e' 33 (by omega)]⟩
  have go : ∀ (r i : Nat) (a : Int64), i + r = (roL τ).length → K (mxL a ((roL τ).drop i)) X' → G11 a (nI (roL τ).length) (nI i) X' := by
    intro r
    induction r with
    | zero =>
      intro i a hi hk
      rw [List.drop_eq_nil_of_le (by omega)] at hk
      exact h11 _ _ _ _ ⟨fun _ => hk, fun c => absurd (by rw [q_le (by omega) (by omega)]; omega) c⟩
    | succ r ih =>
      intro i a hi hk
      have hl : i < (roL τ).length := by omega
      rw [List.drop_eq_getElem_cons hl] at hk
      refine h11 _ _ _ _ ⟨fun c => absurd c (by rw [q_le (by omega) (by omega)]; omega), fun _ => ⟨v_in (by omega) (by omega), ?_⟩⟩
      rw [q_cl (by omega), h39 i _ (List.getElem?_eq_getElem hl)]
      intro y e
      rw [e, nI_1]
      exact ih (i+1) _ (by omega) hk
  exact go (roL τ).length 0 a (by omega) (hK X' sx)
def mxA (A : Nat → Int32) (wd : Nat → Nat) (a : Int64) : Nat → Int64
  | 0 => a
  | i + 1 => mx (mxA A wd a i) (nI (ansM A wd i))
def cE (τ : SU) (i : Nat) : Nat := cntB (fun c => decide (suE τ i c ≠ -2)) 32
def fJ (τ : SU) (i : Nat) (a : Int64) : Nat → Int64
  | 0 => a
  | j + 1 => if i < j then mxO (mx (fJ τ i a j) (if (wit τ i j).isSome then 1 else 0)) (wit τ i j) else fJ τ i a j
theorem fJ_low (τ : SU) (i : Nat) (a : Int64) : ∀ j, j ≤ i + 1 → fJ τ i a j = a
  | 0, _ => rfl
  | j + 1, h => by
    unfold fJ
    rw [if_neg (by omega), fJ_low τ i a j (by omega)]
def fI (τ : SU) : Nat → Int64
  | 0 => mx 83 (nI (suF τ))
  | i + 1 => fJ τ i (mx (mx (fI τ i) (nI (cE τ i))) (nI (rcT τ i))) (suF τ)
noncomputable def irV (τ : SU) : Int32 := @ite _ (irP τ) (Classical.propDecidable _) 1 0
theorem irV_of {τ : SU} {v : Int32} (h : v = 1 ∧ irP τ ∨ v = 0 ∧ ¬ irP τ) : v = irV τ := by
  unfold irV
  rcases h with ⟨e, p⟩ | ⟨e, p⟩
  · rw [if_pos p, e]
  · rw [if_neg p, e]
noncomputable def ckV (τ : SU) (wd : Nat → Nat) (wl : Nat) : Int64 := mxA (mO τ (roL τ) (suB τ)) wd (mxO (mxL (mx (mx (mx (mx (fI τ (suF τ)) (nI (sumN (fun i => cntB (clB τ i) (suF τ)) (suF τ)))) (nI (ordN τ))) (nI (opT τ))) (irV τ)) (roL τ)) (eff τ)) wl
theorem cl_same (τ : SU) : sumN (fun j => cntB (fun i => clB τ i j) j) (suF τ) = sumN (fun i => cntB (clB τ i) (suF τ)) (suF τ) := by
  have e1 : sumN (fun i => cntB (clB τ i) (suF τ)) (suF τ) = sumN (fun i => sumN (fun j => if clB τ i j then 1 else 0) (suF τ)) (suF τ) := sum_cg _ (fun c hc => cnt_sum _ _)
  have e2 : sumN (fun j => cntB (fun i => clB τ i j) j) (suF τ) = sumN (fun j => sumN (fun i => if clB τ i j then 1 else 0) (suF τ)) (suF τ) := sum_cg _ (fun j hj => by
    rw [← cnt_sum]
    exact (cnt_ext (fun c hc => by unfold clB; simp; omega) (suF τ) (by omega)).symm)
  rw [e1, e2, sum_swap]
