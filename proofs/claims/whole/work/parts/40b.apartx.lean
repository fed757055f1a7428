theorem s_findApart {n k : Nat} (hn : n ≤ 8) (hk : k ≤ 4) {μ0 : Mem} (hk1 : μ0.1 1 1 = nI k) (h1 : ∀ c, c < 32 → okA n (μ0.1 7 c)) (h2 : ∀ c, c < 32 → okA n (μ0.1 8 c)) {r : Option (List Nat)} {m0 : Nat} (hr : bfsQ (dfM (μ0.1 7) (μ0.1 8)) (nxM (μ0.1 7) (μ0.1 8)) k m0 0 [((0,0),[])] = some r) {K : Int32 → Mem → Prop} (hK : ∀ v μ', (∀ p, p < 9 ∨ 13 < p → μ'.1 p = μ0.1 p) → WM r v (μ'.1 13) → K v μ') : f_X6_findApart μ0 K := by
  intro G2 G47 G22 G76 G190 h2' h47 h22 h76 h190
  let df := dfM (μ0.1 7) (μ0.1 8)
  let nx := nxM (μ0.1 7) (μ0.1 8)
  have gone : ∀ {Q : QL} {i : Nat} {q : Nd × List Nat}, Q[i]? = some q → i < Q.length := by
    intro Q i q hq
    rcases Nat.lt_or_ge i Q.length with z | z
    · exact z
    · rw [List.getElem?_eq_none z] at hq; cases hq
  have inner : ∀ (i : Nat) (u : Nd) (w : List Nat) (j x : Nat) (Q : QL) (μ : Mem), x + j = k → QJ μ0 k Q μ → Q[i]? = some (u, w) → (∀ wd, innQ df nx u w j x Q = .inl wd → ∀ v μ', (∀ p, p < 9 ∨ 13 < p → μ'.1 p = μ0.1 p) → WM (some wd) v (μ'.1 13) → K v μ') → (∀ Q', innQ df nx u w j x Q = .inr Q' → ∀ μ', QJ μ0 k Q' μ' → G47 (nI Q'.length) (nI (i+1)) μ') → G76 (nI Q.length) (nI i) (nI u.1) (nI u.2) (nI x) μ := by
    intro i u w j
    induction j with
    | zero =>
      intro x Q μ hx hQ hq hl hr
      refine h76 _ _ _ _ _ _ ⟨v_in (a := 1) (by decide) (by decide), fun _ y e => ?_, fun c => absurd (by show μ.1 1 1 ≤ _; rw [hQ.1 1 (by omega), hk1, q_le (by omega) (by omega)]; omega) c⟩
      rw [e, nI_1]
      exact hr Q rfl μ hQ
    | succ j ih =>
      intro x Q μ hx hQ hq hl hr
      have hi := gone hq
      have hle := hQ.le
      have hu := hQ.2.2.1 _ (List.mem_of_getElem? hq)
      have hu1 : u.1 < 9 := hu.1
      have hu2 : u.2 < 9 := hu.2
      have o1 : ∀ c, c < 32 → okA n (μ.1 7 c) := by rw [hQ.1 7 (by omega)]; exact h1
      have o2 : ∀ c, c < 32 → okA n (μ.1 8 c) := by rw [hQ.1 8 (by omega)]; exact h2
      refine h76 _ _ _ _ _ _ ⟨v_in (a := 1) (by decide) (by decide), fun c => absurd c (by show ¬ μ.1 1 1 ≤ _; rw [hQ.1 1 (by omega), hk1, q_le (by omega) (by omega)]; omega), fun _ => ?_⟩
      refine s_output hn o1 (by omega) (by omega) (fun l1 => ?_)
      refine s_output hn o2 (by omega) (by omega) (fun l2 => ?_)
      rw [hQ.1 7 (by omega)] at l1 ⊢
      rw [hQ.1 8 (by omega)] at l2 ⊢
      have ed : df u x = decide (ouM (μ0.1 7) u.1 x ≠ ouM (μ0.1 8) u.2 x) := rfl
      have en : nx u x = some (neM (μ0.1 7) u.1 x, neM (μ0.1 8) u.2 x) := rfl
      rw [q_eq (by omega) (by omega)]
      unfold innQ at hl hr
      cases hd : df u x with
      | true =>
        rw [hd] at hl
        rw [hd] at ed
        have ed : ouM (μ0.1 7) u.1 x ≠ ouM (μ0.1 8) u.2 x := by simpa using ed.symm
        refine ⟨fun c => absurd c ed, fun _ => ?_⟩
        exact s_tells hQ hq (fun v μ' f1 f2 => hl _ rfl v μ' f1 f2)
      | false =>
        rw [hd] at hl hr ed
        have ed : ouM (μ0.1 7) u.1 x = ouM (μ0.1 8) u.2 x := by simpa using ed.symm
        simp only [Bool.false_eq_true, if_false] at hl hr
        refine ⟨fun _ => ?_, fun c => absurd ed c⟩
        refine s_next hn o1 (by omega) (by omega) (fun l1 => ?_)
        refine s_next hn o2 (by omega) (by omega) (fun l2 => ?_)
        rw [hQ.1 7 (by omega)] at l1 ⊢
        rw [hQ.1 8 (by omega)] at l2 ⊢
        rw [en] at hl hr
        dsimp only at hl hr
        generalize neM (μ0.1 7) u.1 x = v1 at hl hr l1 ⊢
        generalize neM (μ0.1 8) u.2 x = v2 at hl hr l2 ⊢
        intro y27 e27
        have e27 : y27 = nI (9*v1+v2) := by
          rw [e27]
          show nI 9 * nI v1 + nI v2 = _
          rw [pk_mul, nI_add]
        rw [e27, q_cl (by omega)]
        have hin : vp_in (nI (9*v1+v2)) 81 := v_in (by omega) (by omega)
        rw [hQ.2.2.2.2 v1 v2 (by omega) (by omega)]
        refine ⟨hin, ?_⟩
        by_cases z : (v1, v2) ∈ Q.map (·.1)
        · rw [if_pos z] at hl hr ⊢
          refine u1 (h190 _ _ _ _ _ _ (fun y e => ?_))
          rw [e, nI_1]
          exact ih (x+1) Q μ (by omega) hQ hq hl hr
        · rw [if_neg z] at hl hr ⊢
          have hroom : Q.length < 81 := nd_room1 (n := 9) hQ.2.1 hQ.2.2.1 (v := (v1, v2)) ⟨by show v1 < 9; omega, by show v2 < 9; omega⟩ z
          refine u0 ⟨hin, fun μ31 e31 => ⟨v_in hroom (by omega), fun μ33 e33 => ⟨v_in hroom (by omega), fun μ35 e35 => ⟨v_in hroom (by omega), fun μ37 e37 y38 e38 => ?_⟩⟩⟩⟩
          refine h190 _ _ _ _ _ _ (fun y e => ?_)
          rw [e, e38, nI_1, nI_1]
          rw [z_1] at e31
          rw [q_cl (by omega)] at e33 e35 e37
          have hQ' := hQ.add (v := (v1, v2)) ⟨by show v1 < 9; omega, by show v2 < 9; omega⟩ z (x := x) (w := w ++ [x]) (by omega) hi hq rfl
          have := ih (x+1) (Q ++ [((v1, v2), w ++ [x])]) μ37 (by omega) (by rw [e37, e35, e33, e31]; exact hQ') (by rw [List.getElem?_append_left hi]; exact hq) hl hr
          simpa using this
  have outer : ∀ (m i : Nat) (Q : QL) (μ : Mem), QJ μ0 k Q μ → i ≤ Q.length → bfsQ df nx k m i Q = some r → G47 (nI Q.length) (nI i) μ := by
    intro m
    induction m with
    | zero => intro i Q μ hQ hi hr; cases hr
    | succ m ih =>
      intro i Q μ hQ hi hr
      have hl := hQ.le
      unfold bfsQ at hr
      refine h47 _ _ _ ⟨fun c => ?_, fun c => ?_⟩
      · rw [q_le (by omega) (by omega)] at c
        rw [List.getElem?_eq_none c] at hr
        have hr : none = r := Option.some.inj hr
        refine hK 0 μ hQ.1 ?_
        rw [← hr]
        rfl
      · rw [q_le (by omega) (by omega)] at c
        have hg : Q[i]? = some (Q[i]'(by omega)) := List.getElem?_eq_getElem _
        generalize (Q[i]'(by omega)) = q at hg
        obtain ⟨u, w⟩ := q
        obtain ⟨a1, a4, a5, a6⟩ := hQ.2.2.2.1 i _ hg
        have hu := hQ.2.2.1 _ (List.mem_of_getElem? hg)
        have hu1 : u.1 < 9 := hu.1
        have hu2 : u.2 < 9 := hu.2
        have a1 : μ.1 9 i = nI (9*u.1+u.2) := a1
        rw [hg] at hr
        dsimp only at hr
        rw [q_cl (by omega), a1]
        refine ⟨v_in (by omega) (by omega), fun y9 e9 => ⟨v_in (by omega) (by omega), fun y11 e11 => ?_⟩⟩
        have e9 : y9 = nI u.1 := by
          rw [e9]
          show nI (9*u.1+u.2) / nI 9 = _
          rw [pk_div (by omega) (by omega) (by omega), show (9*u.1+u.2)/9 = u.1 by omega]
        have e11 : y11 = nI u.2 := by
          rw [e11]
          show nI (9*u.1+u.2) - nI (9*u.1+u.2) / nI 9 * nI 9 = _
          rw [pk_rem (by omega) (by omega) (by omega), show (9*u.1+u.2)%9 = u.2 by omega]
        rw [e9, e11]
        refine inner i u w k 0 Q μ (by omega) hQ hg (fun wd hwd v μ' f1 f2 => ?_) (fun Q' hQ' μ' hI => ?_)
        · rw [hwd] at hr
          have hr : some wd = r := Option.some.inj hr
          exact hK v μ' f1 (by rw [← hr]; exact f2)
        · rw [hQ'] at hr
          refine ih (i+1) Q' μ' hI ?_ hr
          have : ∀ (j x : Nat) (Q Q' : QL), innQ df nx u w j x Q = .inr Q' → Q.length ≤ Q'.length := by
            intro j
            induction j with
            | zero => intro x Q Q' h; have : Q = Q' := Sum.inr.inj h; rw [this]; exact Nat.le_refl _
            | succ j ihj =>
              intro x Q Q' h
              unfold innQ at h
              split at h
              · cases h
              · split at h
                · exact ihj _ _ _ h
                · refine Nat.le_trans ?_ (ihj _ _ _ h)
                  split <;> simp
          have := this k 0 Q Q' hQ'
          omega
  have key := lp_up (fun t (μ : Mem) => G2 (nI t) μ) (fun t μ => (∀ p, p < 9 ∨ 13 < p → μ.1 p = μ0.1 p) ∧ ∀ c, c < t → μ.1 12 c = if c = 0 then 1 else 0) 81
    (fun μ hI => by
      refine h2' _ _ ⟨fun _ => ⟨v_in (a := 0) (by decide) (by decide), fun μ3 e3 => ⟨v_in (a := 0) (by decide) (by decide), fun μ5 e5 => ?_⟩⟩, fun c => absurd (Int32.le_refl 81) c⟩
      refine outer m0 0 [((0,0),[])] μ5 ?_ (by omega) hr
      have e3 : μ3 = wI μ 9 0 0 := e3
      have e5 : μ5 = wI μ3 10 0 (-1) := e5
      refine ⟨fun p hp => by rw [e5, wI_row (by omega), e3, wI_row (by omega)]; exact hI.1 p hp, by simp, by simp, ?_, ?_⟩
      · intro i q hq
        cases i with
        | zero =>
          have hq : ((0,0),[]) = q := Option.some.inj hq
          subst hq
          refine ⟨by rw [e5, wI_row (by omega), e3, wI_at, if_pos ⟨rfl, rfl⟩]; rfl, by simp, by simp, Or.inl ⟨rfl, rfl⟩⟩
        | succ i => cases hq
      · intro a b ha hb
        rw [e5, wI_row (by omega), e3, wI_row (by omega), hI.2 _ (by omega)]
        by_cases z : 9*a+b = 0
        · rw [if_pos z, if_pos (by rw [show a = 0 by omega, show b = 0 by omega]; simp)]
        · rw [if_neg z, if_neg (by simp; omega)])
    (fun t μ ht hI ih => by
      have step : ∀ z0 : Int32, vp_nar .boolean z0 = (if t = 0 then 1 else 0) → G22 (nI t) z0 (nI t) μ := by
        intro z0 hz
        refine h22 _ _ _ _ ⟨v_in ht (by omega), fun μ13 e13 y e => ?_⟩
        rw [e, nI_1]
        rw [q_cl (by omega), hz] at e13
        rw [e13]
        refine ih _ ⟨fun p hp => by rw [wI_row (by omega)]; exact hI.1 p hp, fun c hc => ?_⟩
        rw [wI_at]
        by_cases z : c = t
        · rw [if_pos ⟨rfl, z⟩, z]
        · rw [if_neg (by omega)]; exact hI.2 c (by omega)
      refine h2' _ _ ⟨fun c => absurd c (by show ¬ nI 81 ≤ nI t; rw [q_le (by omega) (by omega)]; omega), fun _ => ⟨fun c => step 0 ?_, fun c => step 1 ?_⟩⟩
      · have c : ¬ nI t = nI 0 := c
        rw [q_eq (by omega) (by omega)] at c
        rw [if_neg c]
        rfl
      · have c : nI t = nI 0 := c
        rw [q_eq (by omega) (by omega)] at c
        rw [if_pos c]
        rfl)
    0 μ0 (by omega) ⟨fun p hp => rfl, fun c hc => by omega⟩
  exact key
theorem s_base (p : Nat) (hp : p ≠ 1) (μ : Mem) (K : Mem → Prop) (hK : K (wA μ p (fun c => if c < 32 then μ.1 1 (2+c) else μ.1 p c))) : f_X6_base p μ K := by
  intro G2 h2
  have key := lp_up (fun t (f : Nat → Int32) => G2 (nI t) (wA μ p f)) (fun t f => f = fun c => if c < t then μ.1 1 (2+c) else μ.1 p c) 32
    (fun f hf => h2 _ _ ⟨fun _ => by rw [hf]; exact hK, fun c => absurd (Int32.le_refl 32) c⟩)
    (fun t f ht hf ih => by
      have e2 : (2 + nI t : Int32) = nI (2+t) := by show nI 2 + nI t = _; rw [nI_add]
      rw [show (nI t) = nI t from rfl]
      refine h2 _ _ ⟨fun c => absurd c (by show ¬ nI 32 ≤ nI t; rw [q_le (by omega) (by omega)]; omega), fun _ => ?_⟩
      rw [e2]
      refine ⟨v_in (by omega) (by omega), v_in ht (by omega), fun μ4 e4 y e => ?_⟩
      rw [e, nI_1]
      rw [q_cl (by omega), q_cl (by omega), wA_ne (by omega), wI_wA] at e4
      rw [e4]
      apply ih
      rw [hf]
      funext c
      rw [upd_at]
      by_cases z : c = t
      · rw [if_pos z, if_pos (by omega), z]
      · rw [if_neg z]
        by_cases y : c < t
        · rw [if_pos y, if_pos (by omega)]
        · rw [if_neg y, if_neg (by omega)])
    0 (μ.1 p) (by omega) (by funext c; rw [if_neg (by omega)])
  rw [wA_self] at key
  exact key
theorem s_putsOn (p : Nat) (hp : p ≠ 1) {f : Nat} (hf : f < 6) (μ : Mem) (K : Mem → Prop) (hK : K (wA μ p (fun c => if c < 32 then (if 0 ≤ μ.1 1 (35+34*f+1+c) then (if μ.1 1 (35+34*f+1+c) = 100 then -1 else μ.1 1 (35+34*f+1+c)) else μ.1 p c) else μ.1 p c))) : f_X6_putsOn p (nI f) μ K := by
  intro G2 G48 h2 h48
  let v : Nat → Int32 := fun c => if 0 ≤ μ.1 1 (35+34*f+1+c) then (if μ.1 1 (35+34*f+1+c) = 100 then -1 else μ.1 1 (35+34*f+1+c)) else μ.1 p c
  have key := lp_up (fun t (g : Nat → Int32) => G2 (nI f) (nI t) (wA μ p g)) (fun t g => g = fun c => if c < t then v c else μ.1 p c) 32
    (fun g hg => h2 _ _ _ ⟨fun _ => by rw [hg]; exact hK, fun c => absurd (Int32.le_refl 32) c⟩)
    (fun t g ht hg ih => by
      have step : ∀ z0 : Int32, z0 = v t → G48 (nI f) (nI t) z0 (nI t) (wA μ p g) := by
        intro z0 hz
        refine h48 _ _ _ _ _ ⟨v_in ht (by omega), fun μ10 e10 y e => ?_⟩
        rw [e, nI_1]
        rw [q_cl (by omega), wI_wA] at e10
        rw [e10]
        apply ih
        rw [hg]
        funext c
        rw [upd_at]
        by_cases z : c = t
        · rw [if_pos z, if_pos (by omega), z, hz]
        · rw [if_neg z]
          by_cases y : c < t
          · rw [if_pos y, if_pos (by omega)]
          · rw [if_neg y, if_neg (by omega)]
      refine h2 _ _ _ ⟨fun c => absurd c (by show ¬ nI 32 ≤ nI t; rw [q_le (by omega) (by omega)]; omega), fun _ => ?_⟩
      unfold f_X6_at
      have e1 : (1 + nI t : Int32) = nI (1 + t) := by show nI 1 + nI t = _; rw [nI_add]
      rw [e1, at_eq]
      refine ⟨v_in (by omega) (by omega), fun y5 e5 => ?_⟩
      rw [q_cl (by omega), wA_ne (by omega), show 35 + 34 * f + (1 + t) = 35 + 34 * f + 1 + t by omega] at e5
      refine ⟨fun c => ⟨fun d => step _ ?_, fun d => step _ ?_⟩, fun c => ⟨v_in ht (by omega), step _ ?_⟩⟩
      · show _ = if 0 ≤ μ.1 1 (35+34*f+1+t) then (if μ.1 1 (35+34*f+1+t) = 100 then -1 else μ.1 1 (35+34*f+1+t)) else μ.1 p t
        rw [← e5, if_pos c, if_neg d]
      · show _ = if 0 ≤ μ.1 1 (35+34*f+1+t) then (if μ.1 1 (35+34*f+1+t) = 100 then -1 else μ.1 1 (35+34*f+1+t)) else μ.1 p t
        rw [← e5, if_pos c, if_pos d]
      · show _ = if 0 ≤ μ.1 1 (35+34*f+1+t) then (if μ.1 1 (35+34*f+1+t) = 100 then -1 else μ.1 1 (35+34*f+1+t)) else μ.1 p t
        rw [← e5, if_neg c, q_cl (by omega), wA_eq, hg]
        show (if t < t then v t else μ.1 p t) = _
        rw [if_neg (by omega)])
    0 (μ.1 p) (by omega) (by funext c; rw [if_neg (by omega)])
  rw [wA_self] at key
  exact key
