/-! the class numbers the groups in the order of the leaders -/
def NM (n : Nat) (g : Nat → Nat) (L : List Nat) (μ : Mem) : Prop := μ.1 50 5 = nI L.length ∧ (∀ i r, L[i]? = some r → μ.1 55 i = nI r) ∧ ∀ s, s < n → μ.1 54 s = if L.any (fun r => g r == g s) then nI (idx g L s) else -1
theorem any_idx {g : Nat → Nat} {L : List Nat} {s : Nat} (h : L.any (fun r => g r == g s) = true) : idx g L s < L.length := by
  obtain ⟨r, hr, he⟩ := List.any_eq_true.mp h
  exact (idx_lt ⟨r, hr, beq_iff_eq.mp he⟩).1
theorem idx_none {g : Nat → Nat} {L : List Nat} {s : Nat} (h : L.any (fun r => g r == g s) = false) : idx g L s = L.length := by
  unfold idx
  rw [List.findIdx_eq_length]
  intro x hx
  have := List.any_eq_false.mp h x hx
  simpa using this
theorem idx_app {g : Nat → Nat} {L : List Nat} {t s : Nat} : idx g (L ++ [t]) s = if L.any (fun r => g r == g s) then idx g L s else if g t = g s then L.length else L.length + 1 := by
  have := List.findIdx_append (p := fun r => g r == g s) (l₁ := L) (l₂ := [t])
  show List.findIdx (fun r => g r == g s) (L ++ [t]) = _
  rw [this]
  cases ha : L.any (fun r => g r == g s) with
  | true =>
    have := any_idx ha
    unfold idx at this ⊢
    rw [if_pos this, if_pos rfl]
  | false =>
    have := idx_none ha
    unfold idx at this
    rw [this, if_neg (by omega), if_neg Bool.false_ne_true, List.findIdx_cons]
    by_cases z : g t = g s
    · rw [if_pos z]; simp [z]
    · have zb : (g t == g s) = false := by simpa using z
      rw [if_neg z, zb]
      show 0 + 1 + L.length = L.length + 1
      omega
theorem s_numOf {n : Nat} (hn : n ≤ 8) {g : Nat → Nat} (g8 : ∀ s, s < n → g s < 8) {L : List Nat} {μ : Mem} (hN : NM n g L μ) (h52 : ∀ s, s < n → μ.1 52 s = nI (g s)) {t : Nat} (ht : t < n) (hl : (addL g L t).length ≤ 8) {K : Mem → Prop} (hK : ∀ μ', NM n g (addL g L t) μ' → (∀ p, p ≠ 54 → p ≠ 55 → p ≠ 50 → μ'.1 p = μ.1 p) → μ'.2 = μ.2 → K μ') : f_X3_numberGroupOf (nI t) (nI n) μ K := by
  intro G31 G61 h31 h61
  refine ⟨v_in (by omega) (by omega), ?_⟩
  rw [q_cl (by omega), hN.2.2 t ht]
  unfold addL at hK hl
  cases ha : L.any (fun r => g r == g t) with
  | true =>
    rw [ha, if_pos rfl] at hK hl
    rw [if_pos rfl]
    have := any_idx ha
    exact ⟨fun _ => hK μ hN (fun _ _ _ _ => rfl) rfl, fun c => absurd (nI_pos' (by omega)) c⟩
  | false =>
    rw [ha, if_neg Bool.false_ne_true, ] at hK hl
    rw [if_neg Bool.false_ne_true]
    rw [List.length_append] at hl
    have hl : L.length + 1 ≤ 8 := hl
    refine ⟨fun c => absurd c (by decide), fun _ => ⟨fun _ => ?_, fun c => absurd (by rw [hN.1]; show nI L.length < nI 8; rw [q_lt (by omega) (by omega)]; omega) c⟩⟩
    rw [hN.1, q_cl (by omega)]
    refine ⟨v_in (by omega) (by omega), fun μ5 e5 => ?_⟩
    exact lp_up (fun b (μ' : Mem) => G31 (nI t) (nI n) (nI b) μ') (fun b μ' => (∀ p, p ≠ 54 → μ'.1 p = μ5.1 p) ∧ μ'.2 = μ.2 ∧ ∀ s, s < n → μ'.1 54 s = if s < b ∧ g s = g t then nI L.length else μ.1 54 s) n
      (fun μ' h => by
        refine h31 _ _ _ _ ⟨fun _ μ7 e7 => ?_, fun c => absurd (Int32.le_refl _) c⟩
        have e50 : μ'.1 50 5 = nI L.length := by rw [h.1 50 (by omega), e5, wI_row (by omega)]; exact hN.1
        rw [e50, nI_1] at e7
        rw [e7]
        refine hK _ ⟨?_, ?_, ?_⟩ (fun p a b c => by rw [wI_row c, h.1 p a, e5, wI_row b]) h.2.1
        · rw [wI_at, if_pos ⟨rfl, rfl⟩, List.length_append]; rfl
        · intro i r hr
          rw [wI_row (by omega), h.1 55 (by omega), e5, wI_at]
          rcases Nat.lt_or_ge i L.length with z | z
          · rw [List.getElem?_append_left z] at hr
            rw [if_neg (by omega)]
            exact hN.2.1 i r hr
          · rw [List.getElem?_append_right z] at hr
            have hv' : i = L.length := by
              rcases Nat.lt_or_ge (i - L.length) 1 with w | w
              · omega
              · rw [List.getElem?_eq_none (by simpa using w)] at hr; cases hr
            subst hv'
            rw [Nat.sub_self] at hr
            have hr : t = r := Option.some.inj hr
            rw [if_pos ⟨rfl, rfl⟩, hr]
        · intro s hs
          rw [wI_row (by omega), h.2.2 s hs, List.any_append, idx_app]
          by_cases z : g s = g t
          · rw [if_pos ⟨hs, z⟩]
            have : L.any (fun r => g r == g s) = false := by rw [z]; exact ha
            rw [this, if_neg Bool.false_ne_true, if_pos z.symm]
            simp [z]
          · rw [if_neg (fun q => z q.2), hN.2.2 s hs]
            have : ([t].any (fun r => g r == g s)) = false := by simp; exact fun q => z q.symm
            rw [this, Bool.or_false]
            cases hb : L.any (fun r => g r == g s) with
            | true => simp
            | false => simp)
      (fun b μ' hb h ih => by
        have step : ∀ μ2, (∀ p, p ≠ 54 → μ2.1 p = μ5.1 p) → μ2.2 = μ.2 → (∀ s, s < n → μ2.1 54 s = if s < b + 1 ∧ g s = g t then nI L.length else μ.1 54 s) → G61 (nI t) (nI n) (nI b) μ2 := fun μ2 a c d => h61 _ _ _ _ (fun y e => by rw [e, nI_1]; exact ih μ2 ⟨a, c, d⟩)
        refine h31 _ _ _ _ ⟨fun c => absurd c (by rw [q_le (by omega) (by omega)]; omega), fun _ => ⟨v_in (by omega) (by omega), v_in (by omega) (by omega), ?_⟩⟩
        have r52 : ∀ s, s < n → μ'.1 52 s = nI (g s) := fun s hs => by rw [h.1 52 (by omega), e5, wI_row (by omega)]; exact h52 s hs
        have gb := g8 b hb
        have gt := g8 t ht
        rw [q_cl (by omega), q_cl (by omega), r52 b hb, r52 t ht, q_eq (by omega) (by omega)]
        refine ⟨fun z => step μ' h.1 h.2.1 (fun s hs => ?_), fun z => ⟨v_in (by omega) (by omega), fun μ12 e12 => step μ12 ?_ ?_ ?_⟩⟩
        · rw [h.2.2 s hs]
          by_cases w : s = b
          · rw [w, if_neg (fun q => z q.2), if_neg (fun q => z q.2)]
          · by_cases y : s < b ∧ g s = g t
            · rw [if_pos y, if_pos ⟨by omega, y.2⟩]
            · rw [if_neg y, if_neg (fun q => y ⟨by omega, q.2⟩)]
        · intro p hp; rw [e12, wI_row hp]; exact h.1 p hp
        · rw [e12]; exact h.2.1
        · intro s hs
          have e50 : μ'.1 50 5 = nI L.length := by rw [h.1 50 (by omega), e5, wI_row (by omega)]; exact hN.1
          rw [e12, e50, wI_at]
          by_cases w : s = b
          · rw [if_pos ⟨rfl, w⟩, if_pos ⟨by omega, by rw [w]; exact z⟩]
          · rw [if_neg (by omega), h.2.2 s hs]
            by_cases y : s < b ∧ g s = g t
            · rw [if_pos y, if_pos ⟨by omega, y.2⟩]
            · rw [if_neg y, if_neg (fun q => y ⟨by omega, q.2⟩)])
      0 μ5 (by omega) ⟨fun _ _ => rfl, by rw [e5]; rfl, fun s hs => by rw [if_neg (by omega), e5, wI_row (by omega)]⟩
theorem s_numberGroups {n k p : Nat} (h1 : 1 ≤ n) (hn : n ≤ 8) (hk : k ≤ 4) (hp : p ≠ 54 ∧ p ≠ 55 ∧ p ≠ 50) {A : Nat → Int32} (hA : rowA n A) {g : Nat → Nat} (g8 : ∀ s, s < n → g s < 8) {μ : Mem} (h0 : isRow μ p A) (h52 : ∀ s, s < n → μ.1 52 s = nI (g s)) {K : Mem → Prop} (hK : ∀ μ', NM n g (ldr A g k) μ' → (∀ q, q ≠ 54 → q ≠ 55 → q ≠ 50 → μ'.1 q = μ.1 q) → μ'.2 = μ.2 → K μ') : f_X3_numberGroups p (nI n) (nI k) μ K := by
  intro G22 G41 G79 h22 h41 h79
  have tlt : ∀ s x, s < n → x < k → A (4*s+x) ≠ -1 → cT (A (4*s+x)) < n := fun s x hs hx z => (okA_arr hn (hA (4*s+x) (by omega)) z).2.2.1
  -- one leader's letters
  have inner : ∀ (i s j x : Nat) (L : List Nat) (μ' : Mem), x + j = k → IL n k A g L → L[i]? = some s → NM n g L μ' → (∀ q, q ≠ 54 → q ≠ 55 → q ≠ 50 → μ'.1 q = μ.1 q) → μ'.2 = μ.2 → (∀ μ2, NM n g (innL A g s j x L) μ2 → (∀ q, q ≠ 54 → q ≠ 55 → q ≠ 50 → μ2.1 q = μ.1 q) → μ2.2 = μ.2 → G22 (nI n) (nI k) (nI (i+1)) μ2) → G41 (nI n) (nI k) (nI i) (nI x) μ' := by
    intro i s j
    induction j with
    | zero =>
      intro x L μ' hx hI hi hN f1 f2 hG
      refine h41 _ _ _ _ _ ⟨fun _ y e => ?_, fun c => absurd (by rw [q_le (by omega) (by omega)]; omega) c⟩
      rw [e, nI_1]
      exact hG μ' hN f1 f2
    | succ j ih =>
      intro x L μ' hx hI hi hN f1 f2 hG
      have hs : s < n := hI.1 s (List.mem_of_getElem? hi)
      have hil : i < L.length := by
        rcases Nat.lt_or_ge i L.length with z | z
        · exact z
        · rw [List.getElem?_eq_none z] at hi; cases hi
      have hL := IL_len hI
      refine h41 _ _ _ _ _ ⟨fun c => absurd c (by rw [q_le (by omega) (by omega)]; omega), fun _ => ⟨v_in (by omega) (by omega), ?_⟩⟩
      unfold f_X5_cellOf
      have ec : (nI s * 4 + nI x : Int32) = nI (4*s+x) := by show _ * nI 4 + _ = _; rw [pk_mul, nI_add, Nat.mul_comm]
      rw [q_cl (by omega), hN.2.1 i s hi, ec]
      refine ⟨v_in (by omega) (by omega), fun y14 e14 => ?_⟩
      rw [q_cl (by omega), f1 p hp.1 hp.2.1 hp.2.2, h0 _ (by omega)] at e14
      unfold innL at hG
      refine ⟨fun z => ?_, fun z => ?_⟩
      · rw [if_pos (by rw [← e14]; exact z)] at hG
        refine h79 _ _ _ _ _ (fun y e => ?_)
        rw [e, nI_1]
        exact ih (x+1) L μ' (by omega) hI hi hN f1 f2 hG
      · have z' : A (4*s+x) ≠ -1 := by rw [← e14]; exact z
        rw [if_neg z'] at hG
        have ht := tlt s x hs (by omega) z'
        obtain ⟨q1, ⟨N, q2⟩, q3⟩ := IL_add hI hi (by omega : x < k) z' ht
        have hl' := IL_len q1
        unfold f_X5_targetOf
        rw [e14, (okA_arr hn (hA (4*s+x) (by omega)) z').1]
        refine s_numOf hn g8 hN (fun s hs => by rw [f1 52 (by omega) (by omega) (by omega)]; exact h52 s hs) ht (by omega) (fun μ2 hN2 f3 f4 => ?_)
        refine h79 _ _ _ _ _ (fun y e => ?_)
        rw [e, nI_1]
        exact ih (x+1) _ μ2 (by omega) q1 (by rw [q2, List.getElem?_append_left hil]; exact hi) hN2 (fun q a b c => by rw [f3 q a b c, f1 q a b c]) (by rw [f4, f2]) hG
  have outer : ∀ (m i : Nat) (L : List Nat) (μ' : Mem), i + m = 8 → IL n k A g L → NM n g L μ' → (∀ q, q ≠ 54 → q ≠ 55 → q ≠ 50 → μ'.1 q = μ.1 q) → μ'.2 = μ.2 → bfsL A g k m i L = ldr A g k → G22 (nI n) (nI k) (nI i) μ' := by
    intro m
    induction m with
    | zero =>
      intro i L μ' hi hI hN f1 f2 he
      have he : L = ldr A g k := he
      rw [he] at hN
      refine h22 _ _ _ _ ⟨fun _ => hK μ' hN f1 f2, fun _ => ⟨fun _ => hK μ' hN f1 f2, fun c => absurd (by show nI 8 ≤ nI i; rw [q_le (by omega) (by omega)]; omega) c⟩⟩
    | succ m ih =>
      intro i L μ' hi hI hN f1 f2 he
      have hL := IL_len hI
      unfold bfsL at he
      refine h22 _ _ _ _ ⟨fun c => ?_, fun c => ⟨fun d => absurd d (by show ¬ nI 8 ≤ nI i; rw [q_le (by omega) (by omega)]; omega), fun _ => ?_⟩⟩
      · rw [hN.1, q_le (by omega) (by omega)] at c
        rw [List.getElem?_eq_none c] at he
        have he : L = ldr A g k := he
        rw [he] at hN
        exact hK μ' hN f1 f2
      · rw [hN.1, q_le (by omega) (by omega)] at c
        have hg : L[i]? = some (L[i]'(by omega)) := List.getElem?_eq_getElem _
        rw [hg] at he
        have he : bfsL A g k m (i+1) (innL A g (L[i]'(by omega)) k 0 L) = ldr A g k := he
        exact inner i (L[i]'(by omega)) k 0 L μ' (by omega) hI hg hN f1 f2 (fun μ2 a b c => ih (i+1) _ μ2 (by omega) (IL_inn hn hk hA k 0 L (by omega) hI hg).1 a b c he)
  refine s_fill 54 8 (-1) μ _ (by omega) (fun μ3 e3 => ?_)
  have f3 : ∀ q, q ≠ 54 → q ≠ 55 → q ≠ 50 → μ3.1 q = μ.1 q := fun q a b c => by rw [e3, wI_row c, wA_ne a]
  have N0 : NM n g [] μ3 := by
    refine ⟨by rw [e3, wI_at, if_pos ⟨rfl, rfl⟩]; rfl, fun i r hr => by (cases hr), fun s hs => ?_⟩
    rw [e3, wI_row (by omega), wA_eq]
    show (if s < 8 then (-1 : Int32) else _) = _
    rw [if_pos (by omega)]
    rfl
  refine s_numOf hn g8 N0 (fun s hs => by rw [f3 52 (by omega) (by omega) (by omega)]; exact h52 s hs) (t := 0) (by omega) (by show 1 ≤ 8; omega) (fun μ4 hN4 f4 g4 => ?_)
  have I0 : IL n k A g [0] := ⟨fun r hr => by rw [List.mem_singleton.mp hr]; omega, List.pairwise_singleton _ _, rfl, fun v r hv hr => by rw [List.getElem?_eq_none (by show 1 ≤ v; omega)] at hr; cases hr⟩
  exact outer 8 0 [0] μ4 rfl I0 hN4 (fun q a b c => by rw [f4 q a b c, f3 q a b c]) (by rw [g4, e3]; rfl) rfl
