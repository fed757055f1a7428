/-- what a search leaves: the word, or nothing -/
def WO (k : Nat) (r : Option (List Nat)) (pn pw : Nat → Int32) : Prop := match r with
  | none => pn 0 = 0
  | some w => 0 < w.length ∧ w.length ≤ 64 ∧ pn 0 = nI w.length ∧ ∀ i y, w[i]? = some y → pw i = nI y ∧ y < k
theorem s_keepWord {μ0 : Mem} {k : Nat} {Q : QL} {μ : Mem} (h : QI μ0 k Q μ) {i : Nat} {q : Nd × List Nat} (hq : Q[i]? = some q) {x : Nat} (hx : x < k) {K : Mem → Prop} (hK : ∀ μ', (∀ p, p < 41 ∨ 48 < p → μ'.1 p = μ0.1 p) → WO k (some (q.2 ++ [x])) (μ'.1 41) (μ'.1 42) → K μ') : f_X0_keepWord (nI i) (nI x) μ K := by
  intro G29 h29
  have lt : ∀ {i : Nat} {q : Nd × List Nat}, Q[i]? = some q → i < 64 := by
    intro i q hq
    have := h.le
    rcases Nat.lt_or_ge i Q.length with z | z
    · omega
    · rw [List.getElem?_eq_none z] at hq; cases hq
  have hi := lt hq
  obtain ⟨a1, a2, a3, a4, a5, a6⟩ := h.at' i q hq
  refine ⟨v_in hi (by omega), fun y2 e2 μ3 e3 => ?_⟩
  rw [q_cl (by omega), a3] at e2
  rw [e2] at e3 ⊢
  rw [nI_1] at e3
  refine ⟨v_in (by omega) (by omega), fun μ5 e5 y6 e6 => ?_⟩
  rw [q_cl (by omega)] at e5
  -- going back along the word
  have key : ∀ (d j : Nat) (q1 : Nd × List Nat) (T : List Nat) (μ' : Mem), q1.2.length = d → Q[j]? = some q1 → q.2 ++ [x] = q1.2 ++ T → (∀ p, p < 41 ∨ 48 < p → μ'.1 p = μ0.1 p) → (∀ p, 43 ≤ p → p ≤ 48 → μ'.1 p = μ.1 p) → μ'.1 41 0 = nI (q.2.length + 1) → (∀ t y, T[t]? = some y → μ'.1 42 (d + t) = nI y) → ∀ b5, (d = 0 ∧ b5 = -1 ∨ ∃ e, d = e + 1 ∧ b5 = nI e) → G29 (nI j) b5 μ' := by
    intro d
    induction d with
    | zero =>
      intro j q1 T μ' hd hj hT f1 f2 f3 f4 b5 hb
      have eb : b5 = -1 := by
        rcases hb with ⟨_, e⟩ | ⟨e, c, _⟩
        · exact e
        · omega
      refine h29 _ _ _ ⟨fun _ => ?_, fun c => absurd (by rw [eb]; decide) c⟩
      have hT : q.2 ++ [x] = T := by rw [hT, List.eq_nil_of_length_eq_zero hd]; rfl
      refine hK μ' f1 ⟨by simp, by simp; omega, by simpa using f3, fun t y ht => ⟨?_, ?_⟩⟩
      · rw [hT] at ht
        have := f4 t y ht
        rwa [Nat.zero_add] at this
      · rcases List.mem_append.mp (List.mem_of_getElem? ht) with z | z
        · exact a5 y z
        · rw [List.mem_singleton.mp z]; exact hx
    | succ d ih =>
      intro j q1 T μ' hd hj hT f1 f2 f3 f4 b5 hb
      have eb : b5 = nI d := by
        rcases hb with ⟨c, _⟩ | ⟨e, c, z⟩
        · omega
        · rw [z, show e = d by omega]
      have hj64 := lt hj
      obtain ⟨c1, c2, c3, c4, c5, c6⟩ := h.at' j q1 hj
      rcases c6 with c6 | ⟨j', q', x', g1, g2, g3, g4, g5⟩
      · rw [c6] at hd; cases hd
      have hd' : q'.2.length = d := by rw [g3, List.length_append] at hd; simpa using hd
      rw [eb]
      refine h29 _ _ _ ⟨fun c => absurd c (nI_pos (by omega)), fun _ => ⟨v_in hj64 (by omega), v_in (by omega) (by omega), fun μ10 e10 => ⟨v_in hj64 (by omega), fun y12 e12 y13 e13 => ?_⟩⟩⟩
      rw [q_cl (by omega), q_cl (by omega), f2 47 (by omega) (by omega), g5] at e10
      rw [q_cl (by omega), e10, wI_row (by omega), f2 46 (by omega) (by omega), g4] at e12
      rw [e12, e10]
      refine ih j' q' (x' :: T) _ hd' g2 (by rw [hT, g3]; simp) (fun p hp => by rw [wI_row (by omega)]; exact f1 p hp) (fun p hp1 hp2 => by rw [wI_row (by omega)]; exact f2 p hp1 hp2) (by rw [wI_row (by omega)]; exact f3) ?_ _ ?_
      · intro t y ht
        rw [wI_at]
        cases t with
        | zero =>
          rw [if_pos ⟨rfl, by omega⟩]
          have : x' = y := Option.some.inj ht
          rw [this]
        | succ t =>
          rw [if_neg (by omega), show d + (t+1) = d + 1 + t by omega]
          exact f4 t y ht
      · cases d with
        | zero => exact Or.inl ⟨rfl, by rw [e13]; rfl⟩
        | succ e => exact Or.inr ⟨e, rfl, by rw [e13, pk_m1]⟩
  rw [e5, e3] 
  refine key q.2.length i q [x] _ rfl hq rfl (fun p hp => by rw [wI_row (by omega), wI_row (by omega)]; exact h.fr p hp) (fun p hp1 hp2 => by rw [wI_row (by omega), wI_row (by omega)]) (by rw [wI_row (by omega), wI_at, if_pos ⟨rfl, rfl⟩]) ?_ y6 ?_
  · intro t y ht
    cases t with
    | zero =>
      have : x = y := Option.some.inj ht
      rw [wI_at, if_pos ⟨rfl, by omega⟩, this]
    | succ t => cases ht
  · cases hd : q.2.length with
    | zero => exact Or.inl ⟨rfl, by rw [e6, hd]; rfl⟩
    | succ e => exact Or.inr ⟨e, rfl, by rw [e6, hd, nI_pred]⟩
theorem s_differ {c1 c2 : Int32} {n : Nat} (hn : n ≤ 8) (h1 : okA n c1) (h2 : okA n c2) {μ : Mem} {K : Int32 → Mem → Prop} (hK : K (if (if c1 = -1 ∨ c2 = -1 then decide (c1 ≠ c2) else decide (cO c1 ≠ cO c2)) then 1 else 0) μ) : f_X0_answersDiffer c1 c2 μ K := by
  intro G10 h10
  have g : (c1 = -1 ∨ c2 = -1) → G10 c1 c2 μ := by
    intro hc
    rw [if_pos hc] at hK
    refine h10 _ _ _ ⟨fun e => ?_, fun e => ?_⟩
    · rw [if_neg (by simp [e])] at hK; exact hK
    · rw [if_pos (by simp [e])] at hK; exact hK
  refine ⟨fun e => g (Or.inl e), fun e => ⟨fun e2 => ?_, fun e2 => g (Or.inr e2)⟩⟩
  have r1 := okA_arr hn h1 e
  have r2 := okA_arr hn h2 e2
  unfold f_X5_outputOf
  rw [r1.2.1, r2.2.1]
  have hc : ¬ (c1 = -1 ∨ c2 = -1) := by
    rintro (z | z)
    · exact e z
    · exact e2 z
  rw [if_neg hc] at hK
  refine ⟨fun c => ?_, fun c => ?_⟩
  · rw [q_eq (by omega) (by omega)] at c
    rw [if_neg (by simp [c])] at hK; exact hK
  · rw [q_eq (by omega) (by omega)] at c
    rw [if_pos (by simp [c])] at hK; exact hK
theorem s_search {p1 p2 : Nat} (hp1 : p1 < 41 ∨ 48 < p1) (hp2 : p2 < 41 ∨ 48 < p2) {n k : Nat} (hn : n ≤ 8) (hk : k ≤ 4) {μ0 : Mem} (h1 : ∀ c, c < 32 → okA n (μ0.1 p1 c)) (h2 : ∀ c, c < 32 → okA n (μ0.1 p2 c)) {K : Mem → Prop} (hK : ∀ r μ', bfsQ (dfC (μ0.1 p1) (μ0.1 p2)) (nxC (μ0.1 p1) (μ0.1 p2)) k 65 0 [((0,0),[])] = some r → (∀ p, p < 41 ∨ 48 < p → μ'.1 p = μ0.1 p) → WO k r (μ'.1 41) (μ'.1 42) → K μ') : f_X0_search p1 p2 (nI k) μ0 K := by
  intro G13 G45 G64 G145 h13 h45 h64 h145 μ1 e1 μ2 e2
  let df := dfC (μ0.1 p1) (μ0.1 p2)
  let nx := nxC (μ0.1 p1) (μ0.1 p2)
  -- one pair's letters
  have inner : ∀ (i : Nat) (u : Nd) (w : List Nat) (j x : Nat) (Q : QL) (μ : Mem), x + j = k → QI μ0 k Q μ → Q[i]? = some (u, w) → (∀ wd, innQ df nx u w j x Q = .inl wd → ∀ μ', (∀ p, p < 41 ∨ 48 < p → μ'.1 p = μ0.1 p) → WO k (some wd) (μ'.1 41) (μ'.1 42) → K μ') → (∀ Q', innQ df nx u w j x Q = .inr Q' → ∀ μ', QI μ0 k Q' μ' → G45 (nI k) (nI (i+1)) μ') → G64 (nI k) (nI i) (nI x) μ := by
    intro i u w j
    induction j with
    | zero =>
      intro x Q μ hx hQ hq hl hr
      refine h64 _ _ _ _ ⟨fun _ y e => ?_, fun c => absurd (by rw [q_le (by omega) (by omega)]; omega) c⟩
      rw [e, nI_1]
      exact hr Q rfl μ hQ
    | succ j ih =>
      intro x Q μ hx hQ hq hl hr
      have hi : i < 64 := by
        have := hQ.le
        rcases Nat.lt_or_ge i Q.length with z | z
        · omega
        · rw [List.getElem?_eq_none z] at hq; cases hq
      obtain ⟨a1, a2, a3, a4, a5, a6⟩ := hQ.at' i _ hq
      have hu := hQ.b _ (List.mem_of_getElem? hq)
      have hu1 : u.1 < 8 := hu.1
      have hu2 : u.2 < 8 := hu.2
      have a1 : μ.1 43 i = nI u.1 := a1
      have a2 : μ.1 44 i = nI u.2 := a2
      have ec : ∀ a, (nI a * 4 + nI x : Int32) = nI (4*a+x) := fun a => by show nI a * nI 4 + nI x = _; rw [pk_mul, nI_add, Nat.mul_comm]
      refine h64 _ _ _ _ ⟨fun c => absurd c (by rw [q_le (by omega) (by omega)]; omega), fun _ => ⟨v_in hi (by omega), ?_⟩⟩
      unfold f_X5_cellOf
      rw [q_cl (by omega), a1, ec]
      refine ⟨v_in (by omega) (by omega), fun y17 e17 => ⟨v_in hi (by omega), ?_⟩⟩
      rw [a2, ec]
      refine ⟨v_in (by omega) (by omega), fun y22 e22 => ?_⟩
      rw [q_cl (by omega), hQ.fr p1 hp1] at e17
      rw [q_cl (by omega), hQ.fr p2 hp2] at e22
      have o1 : okA n y17 := by rw [e17]; exact h1 _ (by omega)
      have o2 : okA n y22 := by rw [e22]; exact h2 _ (by omega)
      have ed : df u x = if y17 = -1 ∨ y22 = -1 then decide (y17 ≠ y22) else decide (cO y17 ≠ cO y22) := by rw [e17, e22]; rfl
      have en : nx u x = if y17 = -1 then none else some (cT y17, cT y22) := by rw [e17, e22]; rfl
      refine s_differ hn o1 o2 ?_
      rw [← ed]
      unfold innQ at hl hr
      cases hd : df u x with
      | true =>
        rw [hd] at hl
        refine ⟨fun c => absurd c (by decide), fun _ => ?_⟩
        exact s_keepWord hQ hq (by omega) (fun μ' f1 f2 => hl _ rfl μ' f1 f2)
      | false =>
        rw [hd] at hl hr ed
        simp only [Bool.false_eq_true, if_false] at hl hr ⊢
        refine ⟨fun _ => ⟨fun c => ?_, fun c => ?_⟩, fun c => absurd trivial c⟩
        · rw [if_pos c] at en
          rw [en] at hl hr
          refine h145 _ _ _ _ (fun y e => ?_)
          rw [e, nI_1]
          exact ih (x+1) Q μ (by omega) hQ hq hl hr
        · rw [if_neg c] at en
          rw [en] at hl hr
          have c2 : ¬ y22 = -1 := by
            intro z
            rw [if_pos (Or.inr z)] at ed
            have ed : ¬ (y17 ≠ y22) := by simpa using ed.symm
            exact ed (by rw [z]; exact c)
          have r1 := okA_arr hn o1 c
          have r2 := okA_arr hn o2 c2
          unfold f_X5_targetOf
          rw [r1.1, r2.1]
          refine s_meet hQ (v := (cT y17, cT y22)) ⟨by show cT y17 < 8; omega, by show cT y22 < 8; omega⟩ (w := w ++ [x]) (Or.inr ⟨i, (u, w), hq, rfl, rfl, by omega⟩) (fun μ' hQ' => ?_)
          refine h145 _ _ _ _ (fun y e => ?_)
          rw [e, nI_1]
          refine ih (x+1) _ μ' (by omega) hQ' ?_ hl hr
          by_cases z : (cT y17, cT y22) ∈ Q.map (·.1)
          · rw [if_pos z]; exact hq
          · rw [if_neg z, List.getElem?_append_left]
            · exact hq
            · rcases Nat.lt_or_ge i Q.length with z | z
              · exact z
              · rw [List.getElem?_eq_none z] at hq; cases hq
  -- the queue
  have outer : ∀ (m i : Nat) (Q : QL) (μ : Mem), i ≤ 64 → i + m = 65 → QI μ0 k Q μ → (∀ r, bfsQ df nx k m i Q = some r → ∀ μ', (∀ p, p < 41 ∨ 48 < p → μ'.1 p = μ0.1 p) → WO k r (μ'.1 41) (μ'.1 42) → K μ') → G45 (nI k) (nI i) μ := by
    intro m
    induction m with
    | zero =>
      intro i Q μ h64' hi hQ hr
      omega
    | succ m ih =>
      intro i Q μ _ hi hQ hr
      have hl := hQ.le
      unfold bfsQ at hr
      refine h45 _ _ _ ⟨fun c => ?_, fun c => ⟨fun d => ?_, fun _ => ?_⟩⟩
      · rw [hQ.n, q_le (by omega) (by omega)] at c
        rw [List.getElem?_eq_none c] at hr
        exact hr none rfl μ hQ.fr hQ.z
      · rw [hQ.n, q_le (by omega) (by omega)] at c
        have d : nI 64 ≤ nI i := d
        rw [q_le (by omega) (by omega)] at d
        omega
      · rw [hQ.n, q_le (by omega) (by omega)] at c
        have hg : Q[i]? = some (Q[i]'(by omega)) := List.getElem?_eq_getElem _
        generalize (Q[i]'(by omega)) = q at hg
        obtain ⟨u, w⟩ := q
        rw [hg] at hr
        dsimp only at hr
        refine inner i u w k 0 Q μ (by omega) hQ hg (fun wd hwd => ?_) (fun Q' hQ' μ' hI => ?_)
        · rw [hwd] at hr
          exact hr _ rfl
        · rw [hQ'] at hr
          exact ih (i+1) Q' μ' (by omega) (by omega) hI hr
  have key := lp_up (fun t (μ : Mem) => G13 (nI k) (nI t) μ) (fun t μ => (∀ p, p < 41 ∨ 48 < p → μ.1 p = μ0.1 p) ∧ μ.1 41 0 = 0 ∧ μ.1 41 8 = 0 ∧ ∀ c, c < t → μ.1 48 c = 0) 64
    (fun μ hI => by
      refine h13 _ _ _ ⟨fun _ => ?_, fun c => absurd (Int32.le_refl 64) c⟩
      have hQ : QI μ0 k [] μ := ⟨hI.1, hI.2.1, hI.2.2.1, List.nodup_nil, fun q hq => by (cases hq), fun i q hq => by (cases hq), fun a b ha hb => by rw [hI.2.2.2 _ (by omega)]; simp⟩
      refine s_meet hQ (v := (0,0)) (x := 0) ⟨by decide, by decide⟩ (w := []) (Or.inl ⟨rfl, rfl⟩) (fun μ' hQ' => ?_)
      exact outer 65 0 _ μ' (by omega) (by omega) hQ' (fun r hr μ3 f1 f2 => hK r μ3 hr f1 f2))
    (fun t μ ht hI ih => by
      refine h13 _ _ _ ⟨fun c => absurd c (by show ¬ nI 64 ≤ nI t; rw [q_le (by omega) (by omega)]; omega), fun _ => ⟨v_in ht (by omega), fun μ7 e7 y e => ?_⟩⟩
      rw [e, nI_1]
      rw [q_cl (by omega), z_0] at e7
      rw [e7]
      refine ih _ ⟨fun p hp => by rw [wI_row (by omega)]; exact hI.1 p hp, by rw [wI_row (by omega)]; exact hI.2.1, by rw [wI_row (by omega)]; exact hI.2.2.1, fun c hc => ?_⟩
      rw [wI_at]
      by_cases z : c = t
      · rw [if_pos ⟨rfl, z⟩]
      · rw [if_neg (by omega)]; exact hI.2.2.2 c (by omega))
    0 μ2 (by omega) ⟨fun p hp => by rw [e2, wI_row (by omega), e1, wI_row (by omega)], by rw [e2, wI_at, if_neg (by omega), e1, wI_at, if_pos ⟨rfl, rfl⟩], by rw [e2, wI_at, if_pos ⟨rfl, rfl⟩], fun c hc => by omega⟩
  exact key
