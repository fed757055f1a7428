/-! the reference's search keeps to the abstract one -/
def ouM (A : Nat → Int32) (u x : Nat) : Nat := if u = 8 then 10 else if 0 ≤ A (4*u+x) then cO (A (4*u+x)) else 10
def neM (A : Nat → Int32) (u x : Nat) : Nat := if u = 8 then 8 else if 0 ≤ A (4*u+x) then cT (A (4*u+x)) else 8
def dfM (A B : Nat → Int32) (u : Nd) (x : Nat) : Bool := decide (ouM A u.1 x ≠ ouM B u.2 x)
def nxM (A B : Nat → Int32) (u : Nd) (x : Nat) : Option Nd := some (neM A u.1 x, neM B u.2 x)
theorem okA_nn {n : Nat} (hn : n ≤ 8) {c : Int32} (h : okA n c) : (0 ≤ c) ↔ ¬ c = -1 := by
  rcases h with rfl | ⟨t, o, ht, ho, rfl⟩
  · decide
  · rw [q_m1 _ (by omega), q_nn (by omega)]; simp
theorem s_output {p0 n u x : Nat} (hn : n ≤ 8) {μ : Mem} (h : ∀ c, c < 32 → okA n (μ.1 p0 c)) (hu : u ≤ 8) (hx : x < 4) {K : Int32 → Mem → Prop} (hK : ouM (μ.1 p0) u x ≤ 10 → K (nI (ouM (μ.1 p0) u x)) μ) : f_X6_output p0 (nI u) (nI x) μ K := by
  intro G16 h16
  have e : (4 * nI u + nI x : Int32) = nI (4*u+x) := by show nI 4 * nI u + nI x = _; rw [pk_mul, nI_add]
  rw [e]
  unfold ouM at hK
  refine ⟨fun c => ?_, fun c => ?_⟩
  · have c : nI u = nI 8 := c
    rw [q_eq (by omega) (by omega)] at c
    rw [if_pos c] at hK
    exact h16 _ (hK (by omega))
  · have c : ¬ nI u = nI 8 := c
    rw [q_eq (by omega) (by omega)] at c
    rw [if_neg c] at hK
    have hin : vp_in (nI (4*u+x)) 32 := v_in (by omega) (by omega)
    rw [q_cl (by omega)]
    refine ⟨hin, fun d => ⟨hin, ?_⟩, fun d => ?_⟩
    · rw [if_pos d] at hK
      have r := okA_arr hn (h _ (by omega)) ((okA_nn hn (h _ (by omega))).mp d)
      rw [r.2.1]
      exact hK (by omega)
    · rw [if_neg d] at hK
      exact h16 _ (hK (by omega))
theorem s_next {p0 n u x : Nat} (hn : n ≤ 8) {μ : Mem} (h : ∀ c, c < 32 → okA n (μ.1 p0 c)) (hu : u ≤ 8) (hx : x < 4) {K : Int32 → Mem → Prop} (hK : neM (μ.1 p0) u x ≤ 8 → K (nI (neM (μ.1 p0) u x)) μ) : f_X6_next p0 (nI u) (nI x) μ K := by
  intro G16 h16
  have e : (4 * nI u + nI x : Int32) = nI (4*u+x) := by show nI 4 * nI u + nI x = _; rw [pk_mul, nI_add]
  rw [e]
  unfold neM at hK
  refine ⟨fun c => ?_, fun c => ?_⟩
  · have c : nI u = nI 8 := c
    rw [q_eq (by omega) (by omega)] at c
    rw [if_pos c] at hK
    exact h16 _ (hK (by omega))
  · have c : ¬ nI u = nI 8 := c
    rw [q_eq (by omega) (by omega)] at c
    rw [if_neg c] at hK
    have hin : vp_in (nI (4*u+x)) 32 := v_in (by omega) (by omega)
    rw [q_cl (by omega)]
    refine ⟨hin, fun d => ⟨hin, ?_⟩, fun d => ?_⟩
    · rw [if_pos d] at hK
      have r := okA_arr hn (h _ (by omega)) ((okA_nn hn (h _ (by omega))).mp d)
      rw [r.1]
      exact hK (by omega)
    · rw [if_neg d] at hK
      exact h16 _ (hK (by omega))
def QJ (μ0 : Mem) (k : Nat) (Q : QL) (μ : Mem) : Prop := (∀ p, p < 9 ∨ 13 < p → μ.1 p = μ0.1 p) ∧ (Q.map (·.1)).Nodup ∧ (∀ q ∈ Q, q.1.1 < 9 ∧ q.1.2 < 9) ∧ (∀ (i : Nat) (q : Nd × List Nat), Q[i]? = some q → μ.1 9 i = nI (9*q.1.1+q.1.2) ∧ q.2.length ≤ i ∧ (∀ y ∈ q.2, y < k) ∧ ((i = 0 ∧ q.2 = []) ∨ ∃ j q' x, j < i ∧ Q[j]? = some q' ∧ q.2 = q'.2 ++ [x] ∧ μ.1 10 i = nI j ∧ μ.1 11 i = nI x)) ∧ ∀ a b, a < 9 → b < 9 → μ.1 12 (9*a+b) = if (a,b) ∈ Q.map (·.1) then 1 else 0
theorem QJ.le {μ0 : Mem} {k : Nat} {Q : QL} {μ : Mem} (h : QJ μ0 k Q μ) : Q.length ≤ 81 := nd_room h.2.1 h.2.2.1
theorem QJ.add {μ0 : Mem} {k : Nat} {Q : QL} {μ : Mem} (h : QJ μ0 k Q μ) {v : Nd} (hv : v.1 < 9 ∧ v.2 < 9) (hn : v ∉ Q.map (·.1)) {w : List Nat} {j x : Nat} {q' : Nd × List Nat} (hxk : x < k) (b1 : j < Q.length) (b2 : Q[j]? = some q') (b3 : w = q'.2 ++ [x]) : QJ μ0 k (Q ++ [(v, w)]) (wI (wI (wI (wI μ 12 (9*v.1+v.2) 1) 9 Q.length (nI (9*v.1+v.2))) 10 Q.length (nI j)) 11 Q.length (nI x)) := by
  refine ⟨?_, ?_, ?_, ?_, ?_⟩
  · intro p hp
    rw [wI_row (by omega), wI_row (by omega), wI_row (by omega), wI_row (by omega)]
    exact h.1 p hp
  · rw [List.map_append]
    refine List.nodup_append.mpr ⟨h.2.1, by simp, ?_⟩
    intro a ha b hb
    simp at hb
    intro e
    exact hn (by rw [← hb, ← e]; exact ha)
  · intro q hq
    rcases List.mem_append.mp hq with z | z
    · exact h.2.2.1 q z
    · rw [List.mem_singleton.mp z]; exact hv
  · intro i q hq
    rcases Nat.lt_or_ge i Q.length with z | z
    · rw [List.getElem?_append_left z] at hq
      obtain ⟨a1, a4, a5, a6⟩ := h.2.2.2.1 i q hq
      simp only [wI_at]
      refine ⟨by simp; rw [if_neg (by omega)]; exact a1, a4, a5, ?_⟩
      rcases a6 with a6 | ⟨j, q', x, b1, b2, b3, b4, b5⟩
      · exact Or.inl a6
      · exact Or.inr ⟨j, q', x, b1, by rw [List.getElem?_append_left (by omega)]; exact b2, b3, by simp; rw [if_neg (by omega)]; exact b4, by simp; rw [if_neg (by omega)]; exact b5⟩
    · rw [List.getElem?_append_right z] at hq
      have e : i = Q.length := by
        rcases Nat.lt_or_ge (i - Q.length) 1 with y | y
        · omega
        · rw [List.getElem?_eq_none (by simpa using y)] at hq; cases hq
      subst e
      rw [Nat.sub_self] at hq
      have hq : (v, w) = q := Option.some.inj hq
      subst hq
      obtain ⟨a1, a4, a5, a6⟩ := h.2.2.2.1 j q' b2
      simp only [wI_at]
      refine ⟨by simp, by rw [b3]; simp; omega, ?_, Or.inr ⟨j, q', x, b1, by rw [List.getElem?_append_left (by omega)]; exact b2, b3, by simp, by simp⟩⟩
      intro y hy
      rw [b3] at hy
      rcases List.mem_append.mp hy with z | z
      · exact a5 y z
      · rw [List.mem_singleton.mp z]; exact hxk
  · intro a b ha hb
    simp only [wI_at]
    simp only [show (12 : Nat) ≠ 9 by decide, show (12 : Nat) ≠ 10 by decide, show (12 : Nat) ≠ 11 by decide, false_and, if_false, true_and]
    by_cases e : (a, b) = v
    · rw [if_pos (by rw [← e]), if_pos (by rw [e]; simp)]
    · rw [if_neg (by intro c; apply e; apply Prod.ext <;> omega), h.2.2.2.2 a b ha hb]
      have : ((a, b) ∈ (Q ++ [(v, w)]).map (·.1)) ↔ (a, b) ∈ Q.map (·.1) := by
        rw [List.map_append, List.mem_append]
        constructor
        · rintro (z | z)
          · exact z
          · simp at z; exact absurd z e
        · exact Or.inl
      simp only [this]
def WM (r : Option (List Nat)) (res : Int32) (pw : Nat → Int32) : Prop := match r with
  | none => res = 0
  | some w => res = nI w.length ∧ ∀ i y, w[i]? = some y → pw i = nI y
theorem s_tells {μ0 : Mem} {k : Nat} {Q : QL} {μ : Mem} (h : QJ μ0 k Q μ) {i : Nat} {q : Nd × List Nat} (hq : Q[i]? = some q) {x : Nat} {K : Int32 → Mem → Prop} (hK : ∀ r μ', (∀ p, p < 9 ∨ 13 < p → μ'.1 p = μ0.1 p) → WM (some (q.2 ++ [x])) r (μ'.1 13) → K r μ') : f_X6_tells (nI i) (nI x) μ K := by
  intro G5 G42 h5 h42
  have lt : ∀ {i : Nat} {q : Nd × List Nat}, Q[i]? = some q → i < 81 := by
    intro i q hq
    have := h.le
    rcases Nat.lt_or_ge i Q.length with z | z
    · omega
    · rw [List.getElem?_eq_none z] at hq; cases hq
  have hi := lt hq
  obtain ⟨a1, a4, a5, a6⟩ := h.2.2.2.1 i q hq
  -- going back along the word
  have key : ∀ (d j : Nat) (q1 : Nd × List Nat) (T : List Nat) (μ' : Mem), q1.2.length = d → Q[j]? = some q1 → q.2 ++ [x] = q1.2 ++ T → (∀ p, p < 9 ∨ 13 < p → μ'.1 p = μ0.1 p) → (∀ p, 9 ≤ p → p ≤ 12 → μ'.1 p = μ.1 p) → (∀ t y, T[t]? = some y → μ'.1 13 (d + t) = nI y) → ∀ b4, (d = 0 ∨ ∃ e, d = e + 1 ∧ b4 = nI e) → G42 (nI (q.2.length + 1)) b4 (nI j) μ' := by
    intro d
    induction d with
    | zero =>
      intro j q1 T μ' hd hj hT f1 f2 f4 b5 hb
      have ej : j = 0 := by
        rcases (h.2.2.2.1 j q1 hj).2.2.2 with ⟨z, _⟩ | ⟨j', q', x', g1, g2, g3, g4, g5⟩
        · exact z
        · rw [g3, List.length_append] at hd; simp at hd
      subst ej
      refine h42 _ _ _ _ ⟨fun _ => ?_, fun c => absurd (Int32.le_refl 0) c⟩
      have hT : q.2 ++ [x] = T := by rw [hT, List.eq_nil_of_length_eq_zero hd]; rfl
      refine hK _ μ' f1 ⟨by simp, fun t y ht => ?_⟩
      rw [hT] at ht
      have := f4 t y ht
      rwa [Nat.zero_add] at this
    | succ d ih =>
      intro j q1 T μ' hd hj hT f1 f2 f4 b5 hb
      have eb : b5 = nI d := by
        rcases hb with c | ⟨e, c, z⟩
        · omega
        · rw [z, show e = d by omega]
      have hj64 := lt hj
      obtain ⟨c1, c4, c5, c6⟩ := h.2.2.2.1 j q1 hj
      rcases c6 with ⟨_, c6⟩ | ⟨j', q', x', g1, g2, g3, g4, g5⟩
      · rw [c6] at hd; cases hd
      have hd' : q'.2.length = d := by rw [g3, List.length_append] at hd; simpa using hd
      rw [eb]
      refine h42 _ _ _ _ ⟨fun c => absurd c (nI_nle (by omega) (by omega)), fun _ => ⟨v_in hj64 (by omega), v_in (by omega) (by omega), fun μ10 e10 y12 e12 => ⟨v_in hj64 (by omega), fun y13 e13 => ?_⟩⟩⟩
      rw [q_cl (by omega), q_cl (by omega), f2 11 (by omega) (by omega), g5] at e10
      rw [q_cl (by omega), e10, wI_row (by omega), f2 10 (by omega) (by omega), g4] at e13
      rw [e13, e10]
      refine ih j' q' (x' :: T) _ hd' g2 (by rw [hT, g3]; simp) (fun p hp => by rw [wI_row (by omega)]; exact f1 p hp) (fun p hp1 hp2 => by rw [wI_row (by omega)]; exact f2 p hp1 hp2) ?_ _ ?_
      · intro t y ht
        rw [wI_at]
        cases t with
        | zero =>
          rw [if_pos ⟨rfl, by omega⟩]
          have : x' = y := Option.some.inj ht
          rw [this]
        | succ t =>
          rw [if_neg (by omega), show d + (t+1) = d + 1 + t by omega]
          exact f4 t y ht
      · cases d with
        | zero => exact Or.inl rfl
        | succ e => exact Or.inr ⟨e, rfl, by rw [e12, pk_m1]⟩
  -- counting
  have cnt : ∀ (d j : Nat) (q1 : Nd × List Nat) (c : Nat), q1.2.length = d → Q[j]? = some q1 → c + d = q.2.length + 1 → G5 (nI i) (nI x) (nI c) (nI j) μ := by
    intro d
    induction d with
    | zero =>
      intro j q1 c hd hj hc
      have ej : j = 0 := by
        rcases (h.2.2.2.1 j q1 hj).2.2.2 with ⟨z, _⟩ | ⟨j', q', x', g1, g2, g3, g4, g5⟩
        · exact z
        · rw [g3, List.length_append] at hd; simp at hd
      subst ej
      have ec : c = q.2.length + 1 := by omega
      subst ec
      refine h5 _ _ _ _ _ ⟨fun _ => ?_, fun c => absurd (Int32.le_refl 0) c⟩
      rw [nI_pred, q_cl (by omega)]
      refine ⟨v_in (by omega) (by omega), fun μ3 e3 y4 e4 => ?_⟩
      rw [e3]
      refine key q.2.length i q [x] _ rfl hq rfl (fun p hp => by rw [wI_row (by omega)]; exact h.1 p hp) (fun p hp1 hp2 => by rw [wI_row (by omega)]) ?_ y4 ?_
      · intro t y ht
        cases t with
        | zero =>
          have : x = y := Option.some.inj ht
          rw [wI_at, if_pos ⟨rfl, by omega⟩, this]
        | succ t => cases ht
      · cases hd : q.2.length with
        | zero => exact Or.inl rfl
        | succ e =>
          refine Or.inr ⟨e, rfl, ?_⟩
          rw [e4, hd]
          show nI (e+1+1) - nI 2 = _
          rw [pk_sub (by omega)]
          rfl
    | succ d ih =>
      intro j q1 c hd hj hc
      have hj64 := lt hj
      obtain ⟨c1, c4, c5, c6⟩ := h.2.2.2.1 j q1 hj
      rcases c6 with ⟨_, c6⟩ | ⟨j', q', x', g1, g2, g3, g4, g5⟩
      · rw [c6] at hd; cases hd
      have hd' : q'.2.length = d := by rw [g3, List.length_append] at hd; simpa using hd
      refine h5 _ _ _ _ _ ⟨fun c => absurd c (nI_nle (by omega) (by omega)), fun _ y5 e5 => ⟨v_in hj64 (by omega), fun y7 e7 => ?_⟩⟩
      rw [q_cl (by omega), g4] at e7
      rw [e5, e7, nI_1]
      exact ih j' q' (c+1) hd' g2 (by omega)
  exact cnt q.2.length i q 1 rfl hq (by omega)
