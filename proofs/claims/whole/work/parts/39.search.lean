/-! the class's search keeps to the abstract one -/
def cO (c : Int32) : Nat := c.toNatClampNeg % 10
def cT (c : Int32) : Nat := c.toNatClampNeg / 10
def dfC (A B : Nat → Int32) (u : Nd) (x : Nat) : Bool := if A (4*u.1+x) = -1 ∨ B (4*u.2+x) = -1 then decide (A (4*u.1+x) ≠ B (4*u.2+x)) else decide (cO (A (4*u.1+x)) ≠ cO (B (4*u.2+x)))
def nxC (A B : Nat → Int32) (u : Nd) (x : Nat) : Option Nd := if A (4*u.1+x) = -1 then none else some (cT (A (4*u.1+x)), cT (B (4*u.2+x)))
theorem okA_arr {n : Nat} (hn : n ≤ 8) {c : Int32} (h : okA n c) (h1 : ¬ c = -1) : c / 10 = nI (cT c) ∧ c - c / 10 * 10 = nI (cO c) ∧ cT c < n ∧ cO c < 10 := by
  rcases h with h | ⟨t, o, ht, ho, rfl⟩
  · exact absurd h h1
  · unfold cT cO
    rw [q_cl (by omega)]
    have e1 : nI (10*t+o) / 10 = nI ((10*t+o)/10) := pk_div (d := 10) (by omega) (by omega) (by omega)
    have e2 : nI (10*t+o) - nI (10*t+o) / 10 * 10 = nI ((10*t+o)%10) := pk_rem (d := 10) (by omega) (by omega) (by omega)
    exact ⟨e1, e2, by omega, by omega⟩
/-- the queue in the class's rows -/
def QI (μ0 : Mem) (k : Nat) (Q : QL) (μ : Mem) : Prop := (∀ p, p < 41 ∨ 48 < p → μ.1 p = μ0.1 p) ∧ (μ.1 41 0 = 0) ∧ (μ.1 41 8 = nI Q.length) ∧ ((Q.map (·.1)).Nodup) ∧ (∀ q ∈ Q, q.1.1 < 8 ∧ q.1.2 < 8) ∧ (∀ (i : Nat) (q : Nd × List Nat), Q[i]? = some q → μ.1 43 i = nI q.1.1 ∧ μ.1 44 i = nI q.1.2 ∧ μ.1 45 i = nI q.2.length ∧ q.2.length ≤ i ∧ (∀ y ∈ q.2, y < k) ∧ (q.2 = [] ∨ ∃ j q' x, j < i ∧ Q[j]? = some q' ∧ q.2 = q'.2 ++ [x] ∧ μ.1 46 i = nI j ∧ μ.1 47 i = nI x)) ∧ (∀ a b, a < 8 → b < 8 → μ.1 48 (8*a+b) = if (a,b) ∈ Q.map (·.1) then 1 else 0)
theorem QI.fr {μ0 : Mem} {k : Nat} {Q : QL} {μ : Mem} (h : QI μ0 k Q μ) : ∀ p, p < 41 ∨ 48 < p → μ.1 p = μ0.1 p := h.1
theorem QI.z {μ0 : Mem} {k : Nat} {Q : QL} {μ : Mem} (h : QI μ0 k Q μ) : μ.1 41 0 = 0 := h.2.1
theorem QI.n {μ0 : Mem} {k : Nat} {Q : QL} {μ : Mem} (h : QI μ0 k Q μ) : μ.1 41 8 = nI Q.length := h.2.2.1
theorem QI.nd {μ0 : Mem} {k : Nat} {Q : QL} {μ : Mem} (h : QI μ0 k Q μ) : (Q.map (·.1)).Nodup := h.2.2.2.1
theorem QI.b {μ0 : Mem} {k : Nat} {Q : QL} {μ : Mem} (h : QI μ0 k Q μ) : ∀ q ∈ Q, q.1.1 < 8 ∧ q.1.2 < 8 := h.2.2.2.2.1
theorem QI.at' {μ0 : Mem} {k : Nat} {Q : QL} {μ : Mem} (h : QI μ0 k Q μ) : ∀ (i : Nat) (q : Nd × List Nat), Q[i]? = some q → μ.1 43 i = nI q.1.1 ∧ μ.1 44 i = nI q.1.2 ∧ μ.1 45 i = nI q.2.length ∧ q.2.length ≤ i ∧ (∀ y ∈ q.2, y < k) ∧ (q.2 = [] ∨ ∃ j q' x, j < i ∧ Q[j]? = some q' ∧ q.2 = q'.2 ++ [x] ∧ μ.1 46 i = nI j ∧ μ.1 47 i = nI x) := h.2.2.2.2.2.1
theorem QI.m {μ0 : Mem} {k : Nat} {Q : QL} {μ : Mem} (h : QI μ0 k Q μ) : ∀ a b, a < 8 → b < 8 → μ.1 48 (8*a+b) = if (a,b) ∈ Q.map (·.1) then 1 else 0 := h.2.2.2.2.2.2
theorem nd_len {α : Type} [DecidableEq α] : ∀ (l L : List α), l.Nodup → (∀ x ∈ l, x ∈ L) → l.length ≤ L.length
  | [], _, _, _ => Nat.zero_le _
  | a :: t, L, h, hs => by
    have h1 := List.nodup_cons.mp h
    have ha : a ∈ L := hs a (List.mem_cons_self ..)
    have := nd_len t (L.erase a) h1.2 (fun x hx => (List.mem_erase_of_ne (fun (e : x = a) => h1.1 (by rw [← e]; exact hx))).mpr (hs x (List.mem_cons_of_mem _ hx)))
    rw [List.length_erase_of_mem ha] at this
    have : 0 < L.length := List.length_pos_of_mem ha
    show t.length + 1 ≤ L.length
    omega
def allP (n : Nat) : List Nd := (List.range n).flatMap (fun a => (List.range n).map (fun b => (a, b)))
theorem mem_allP {n : Nat} {v : Nd} (h : v.1 < n ∧ v.2 < n) : v ∈ allP n := List.mem_flatMap.mpr ⟨v.1, List.mem_range.mpr h.1, List.mem_map.mpr ⟨v.2, List.mem_range.mpr h.2, rfl⟩⟩
theorem nd_room {n : Nat} {Q : QL} (h : (Q.map (·.1)).Nodup) (hb : ∀ q ∈ Q, q.1.1 < n ∧ q.1.2 < n) : Q.length ≤ (allP n).length := by
  have := nd_len (Q.map (·.1)) (allP n) h (fun v hv => by
    obtain ⟨q, hq, rfl⟩ := List.mem_map.mp hv
    exact mem_allP (hb q hq))
  rwa [List.length_map] at this
theorem nd_room1 {n : Nat} {Q : QL} (h : (Q.map (·.1)).Nodup) (hb : ∀ q ∈ Q, q.1.1 < n ∧ q.1.2 < n) {v : Nd} (hv : v.1 < n ∧ v.2 < n) (hn : v ∉ Q.map (·.1)) : Q.length < (allP n).length := by
  have := nd_len (v :: Q.map (·.1)) (allP n) (List.nodup_cons.mpr ⟨hn, h⟩) (fun u hu => by
    rcases List.mem_cons.mp hu with e | hu
    · rw [e]; exact mem_allP hv
    · obtain ⟨q, hq, rfl⟩ := List.mem_map.mp hu
      exact mem_allP (hb q hq))
  rw [List.length_cons, List.length_map] at this
  omega
theorem QI.le {μ0 : Mem} {k : Nat} {Q : QL} {μ : Mem} (h : QI μ0 k Q μ) : Q.length ≤ 64 := nd_room h.nd h.b
theorem QI.add {μ0 : Mem} {k : Nat} {Q : QL} {μ : Mem} (h : QI μ0 k Q μ) {v : Nd} (hv : v.1 < 8 ∧ v.2 < 8) (hn : v ∉ Q.map (·.1)) {w : List Nat} {pj px : Int32} (hw : w.length ≤ Q.length ∧ (∀ y ∈ w, y < k) ∧ (w = [] ∨ ∃ j q' x, j < Q.length ∧ Q[j]? = some q' ∧ w = q'.2 ++ [x] ∧ pj = nI j ∧ px = nI x)) : QI μ0 k (Q ++ [(v, w)]) (wI (wI (wI (wI (wI (wI (wI μ 48 (8*v.1+v.2) 1) 43 Q.length (nI v.1)) 44 Q.length (nI v.2)) 45 Q.length (nI w.length)) 46 Q.length pj) 47 Q.length px) 41 8 (nI (Q.length + 1))) := by
  refine ⟨?_, ?_, ?_, ?_, ?_, ?_, ?_⟩
  · intro p hp
    rw [wI_row (by omega), wI_row (by omega), wI_row (by omega), wI_row (by omega), wI_row (by omega), wI_row (by omega), wI_row (by omega)]
    exact h.fr p hp
  · simp only [wI_at]
    simpa using h.z
  · simp only [wI_at]
    simp
  · rw [List.map_append]
    refine List.nodup_append.mpr ⟨h.nd, by simp, ?_⟩
    intro a ha b hb
    simp at hb
    intro e
    exact hn (by rw [← hb, ← e]; exact ha)
  · intro q hq
    rcases List.mem_append.mp hq with z | z
    · exact h.b q z
    · rw [List.mem_singleton.mp z]; exact hv
  · intro i q hq
    rcases Nat.lt_or_ge i Q.length with z | z
    · rw [List.getElem?_append_left z] at hq
      obtain ⟨a1, a2, a3, a4, a5, a6⟩ := h.at' i q hq
      simp only [wI_at]
      refine ⟨by simp; rw [if_neg (by omega)]; exact a1, by simp; rw [if_neg (by omega)]; exact a2, by simp; rw [if_neg (by omega)]; exact a3, a4, a5, ?_⟩
      rcases a6 with a6 | ⟨j, q', x, b1, b2, b3, b4, b5⟩
      · exact Or.inl a6
      · exact Or.inr ⟨j, q', x, b1, by rw [List.getElem?_append_left (by omega)]; exact b2, b3, by simp; rw [if_neg (by omega)]; exact b4, by simp; rw [if_neg (by omega)]; exact b5⟩
    · rw [List.getElem?_append_right z] at hq
      have e : i = Q.length := by
        rcases Nat.lt_or_ge (i - Q.length) 1 with y | y
        · omega
        · rw [List.getElem?_eq_none (by simpa using y)] at hq; cases hq
      subst e
      rw [Nat.sub_self] at hq
      have hq : (v, w) = q := Option.some.inj hq
      subst hq
      simp only [wI_at]
      refine ⟨by simp, by simp, by simp, hw.1, hw.2.1, ?_⟩
      rcases hw.2.2 with a6 | ⟨j, q', x, b1, b2, b3, b4, b5⟩
      · exact Or.inl a6
      · exact Or.inr ⟨j, q', x, b1, by rw [List.getElem?_append_left (by omega)]; exact b2, b3, by simp [b4], by simp [b5]⟩
  · intro a b ha hb
    simp only [wI_at]
    simp only [show (48 : Nat) ≠ 41 by decide, show (48 : Nat) ≠ 43 by decide, show (48 : Nat) ≠ 44 by decide, show (48 : Nat) ≠ 45 by decide, show (48 : Nat) ≠ 46 by decide, show (48 : Nat) ≠ 47 by decide, false_and, if_false, true_and]
    by_cases e : (a, b) = v
    · rw [if_pos (by rw [← e]), if_pos (by rw [e]; simp)]
    · rw [if_neg (by intro c; apply e; apply Prod.ext <;> omega), h.m a b ha hb]
      have : ((a, b) ∈ (Q ++ [(v, w)]).map (·.1)) ↔ (a, b) ∈ Q.map (·.1) := by
        rw [List.map_append, List.mem_append]
        constructor
        · rintro (z | z)
          · exact z
          · simp at z; exact absurd z e
        · exact Or.inl
      simp only [this]
/-- one pair met -/
theorem s_meet {μ0 : Mem} {k : Nat} {Q : QL} {μ : Mem} (h : QI μ0 k Q μ) {v : Nd} (hv : v.1 < 8 ∧ v.2 < 8) {x3 : Int32} {x : Nat} {w : List Nat} (hx3 : (x3 = -1 ∧ w = []) ∨ ∃ i q, Q[i]? = some q ∧ x3 = nI i ∧ w = q.2 ++ [x] ∧ x < k) {K : Mem → Prop} (hK : ∀ μ', QI μ0 k (if v ∈ Q.map (·.1) then Q else Q ++ [(v, w)]) μ' → K μ') : f_X0_meet (nI v.1) (nI v.2) x3 (nI x) μ K := by
  intro G80 h80 y1 e1
  have e1 : y1 = nI (8*v.1+v.2) := by
    rw [e1]
    show nI v.1 * nI 8 + nI v.2 = _
    rw [pk_mul, nI_add, Nat.mul_comm]
  rw [e1, q_cl (by omega)]
  refine ⟨v_in (by omega) (by omega), ?_⟩
  rw [h.m v.1 v.2 hv.1 hv.2]
  by_cases hm : v ∈ Q.map (·.1)
  · rw [if_pos hm] at hK ⊢
    exact u1 (hK μ h)
  · rw [if_neg hm] at hK ⊢
    refine u0 ?_
    have hl : Q.length < 64 := nd_room1 h.nd h.b hv hm
    refine ⟨fun _ => ?_, fun c => absurd (by rw [h.n]; show nI Q.length < nI 64; rw [q_lt (by omega) (by omega)]; exact hl) c⟩
    refine ⟨v_in (by omega) (by omega), fun μ6 e6 => ?_⟩
    rw [z_1] at e6
    have n6 : μ6.1 41 8 = nI Q.length := by rw [e6, wI_row (by omega)]; exact h.n
    rw [n6, q_cl (by omega)]
    refine ⟨v_in (by omega) (by omega), fun μ8 e8 => ?_⟩
    have n8 : μ8.1 41 8 = nI Q.length := by rw [e8, wI_row (by omega)]; exact n6
    rw [n8, q_cl (by omega)]
    refine ⟨v_in (by omega) (by omega), fun μ10 e10 => ?_⟩
    have n10 : μ10.1 41 8 = nI Q.length := by rw [e10, wI_row (by omega)]; exact n8
    have go : ∀ pj px : Int32, (w.length ≤ Q.length ∧ (∀ y ∈ w, y < k) ∧ (w = [] ∨ ∃ j q' x, j < Q.length ∧ Q[j]? = some q' ∧ w = q'.2 ++ [x] ∧ pj = nI j ∧ px = nI x)) → G80 pj px (nI w.length) (nI Q.length) μ10 := by
      intro pj px hw
      refine h80 _ _ _ _ _ ⟨v_in (by omega) (by omega), fun μ14 e14 => ?_⟩
      rw [q_cl (by omega)] at e14
      have n14 : μ14.1 41 8 = nI Q.length := by rw [e14, wI_row (by omega)]; exact n10
      rw [n14, q_cl (by omega)]
      refine ⟨v_in (by omega) (by omega), fun μ16 e16 => ?_⟩
      have n16 : μ16.1 41 8 = nI Q.length := by rw [e16, wI_row (by omega)]; exact n14
      rw [n16, q_cl (by omega)]
      refine ⟨v_in (by omega) (by omega), fun μ18 e18 μ19 e19 => ?_⟩
      have n18 : μ18.1 41 8 = nI Q.length := by rw [e18, wI_row (by omega)]; exact n16
      rw [n18, nI_1] at e19
      rw [e19, e18, e16, e14, e10, e8, e6]
      exact hK _ (h.add hv hm hw)
    rw [n10]
    rcases hx3 with ⟨ex, ew⟩ | ⟨i, q, hq, ex, ew, hxk⟩
    · rw [ex]
      refine ⟨fun c => absurd c (by decide), fun _ => ?_⟩
      have := go (-1) (nI x) ⟨by rw [ew]; exact Nat.zero_le _, by rw [ew]; simp, Or.inl ew⟩
      rw [ew] at this
      exact this
    · rw [ex]
      have hi : i < Q.length := by
        rcases Nat.lt_or_ge i Q.length with z | z
        · exact z
        · rw [List.getElem?_eq_none z] at hq; cases hq
      obtain ⟨a1, a2, a3, a4, a5, a6⟩ := h.at' i q hq
      refine ⟨fun _ => ⟨v_in (by omega) (by omega), ?_⟩, fun c => absurd (nI_pos' (by omega)) c⟩
      rw [q_cl (by omega), e10, wI_row (by omega), e8, wI_row (by omega), e6, wI_row (by omega), a3, nI_1, ← e6, ← e8, ← e10]
      have := go (nI i) (nI x) ⟨by rw [ew]; simp; omega, by
        intro y hy
        rw [ew] at hy
        rcases List.mem_append.mp hy with z | z
        · exact a5 y z
        · rw [List.mem_singleton.mp z]; exact hxk, Or.inr ⟨i, q, x, hi, hq, ew, rfl, rfl⟩⟩
      rw [ew] at this
      simpa using this
