/-! orders: the reference numbers them -/
def fct : Nat → Nat
  | 0 => 1
  | n + 1 => fct n * (n + 1)
theorem fct_pos : ∀ n, 0 < fct n
  | 0 => by decide
  | n + 1 => Nat.mul_pos (fct_pos n) (Nat.succ_pos n)
theorem fct_le {n : Nat} (h : n ≤ 6) : fct n ≤ 720 := by
  have : n = 0 ∨ n = 1 ∨ n = 2 ∨ n = 3 ∨ n = 4 ∨ n = 5 ∨ n = 6 := by omega
  rcases this with rfl | rfl | rfl | rfl | rfl | rfl | rfl <;> decide
def dec : Nat → List Nat → Nat → List Nat
  | 0, _, _ => []
  | n + 1, U, c => U.getD (c / fct n) 0 :: dec n (U.eraseIdx (c / fct n)) (c % fct n)
theorem dec_len : ∀ n U c, (dec n U c).length = n
  | 0, _, _ => rfl
  | n + 1, U, c => by unfold dec; rw [List.length_cons, dec_len n]
theorem er_mid {α : Type} (x : α) (B : List α) : ∀ A : List α, (A ++ x :: B).eraseIdx A.length = A ++ B
  | [] => rfl
  | a :: A => by
    show a :: (A ++ x :: B).eraseIdx A.length = a :: (A ++ B)
    rw [er_mid x B A]
theorem get_mid (x d : Nat) (B : List Nat) : ∀ A : List Nat, (A ++ x :: B).getD A.length d = x
  | [] => rfl
  | a :: A => by
    show (A ++ x :: B).getD A.length d = x
    exact get_mid x d B A
theorem rng_split {i : Nat} : ∀ m, i < m → ∃ rest, List.range m = List.range i ++ i :: rest ∧ ∀ x ∈ rest, i < x
  | 0, h => by omega
  | m + 1, h => by
    rw [List.range_succ]
    rcases Nat.lt_or_ge i m with z | z
    · obtain ⟨r, h1, h2⟩ := rng_split m z
      refine ⟨r ++ [m], by rw [h1]; simp, fun x hx => ?_⟩
      rcases List.mem_append.mp hx with y | y
      · exact h2 x y
      · rw [List.mem_singleton.mp y]; exact z
    · rw [show i = m by omega]
      exact ⟨[], rfl, fun x hx => by cases hx⟩
/-- the places not used yet -/
def unu (m : Nat) (u : Int32) : List Nat := (List.range m).filter (fun i => !bt u i)
theorem unu_split {m i : Nat} (hi : i < m) (hm : m ≤ 6) {u : Int32} (hu : bt u i = false) : ∃ R, unu m u = (List.range i).filter (fun i => !bt u i) ++ i :: R ∧ unu m (u ||| (1 <<< (nI i &&& 31))) = (List.range i).filter (fun i => !bt u i) ++ R := by
  obtain ⟨rest, h1, h2⟩ := rng_split m hi
  have lt : ∀ x ∈ rest, x < m := fun x hx => List.mem_range.mp (by rw [h1]; simp [hx])
  refine ⟨rest.filter (fun i => !bt u i), ?_, ?_⟩
  · unfold unu
    rw [h1, List.filter_append, List.filter_cons_of_pos (by rw [hu]; rfl)]
  · unfold unu
    rw [h1, List.filter_append, List.filter_cons_of_neg (by rw [bt_on (by omega) (by omega), if_pos rfl]; decide)]
    congr 1
    · apply List.filter_congr
      intro x hx
      have := List.mem_range.mp hx
      rw [bt_on (by omega) (by omega), if_neg (by omega)]
    · apply List.filter_congr
      intro x hx
      have := h2 x hx
      have := lt x hx
      rw [bt_on (by omega) (by omega), if_neg (by omega)]
theorem s_findOrder {M : Mem} {m : Nat} {U0 : List Nat} (hm : U0.length = m) (hm6 : m ≤ 6) (h18 : M.1 0 18 = nI m) (h14 : ∀ i x, U0[i]? = some x → M.1 14 i = nI x) {c : Nat} (hc : c < fct m) {K : Mem → Prop} (hK : ∀ M', (∀ p, p ≠ 15 → M'.1 p = M.1 p) → (∀ i x, (dec m U0 c)[i]? = some x → M'.1 15 i = nI x) → K M') : f_X6_findOrder (nI c) M K := by
  intro G10 G35 G84 G89 G104 G121 h10 h35 h84 h89 h104 h121
  -- place by place
  have place : ∀ (n t : Nat) (u : Int32) (d : Nat) (A : List Nat) (M' : Mem), t + n = m → A.length = t → (unu m u).length = n → d < fct n → A ++ dec n ((unu m u).map (fun i => U0.getD i 0)) d = dec m U0 c → (∀ p, p ≠ 15 → M'.1 p = M.1 p) → (∀ i x, A[i]? = some x → M'.1 15 i = nI x) → G35 u (nI d) (nI (fct (n-1))) (nI t) M' := by
    intro n
    induction n with
    | zero =>
      intro t u d A M' ht hA hu hd he f1 f2
      refine h35 _ _ _ _ _ ⟨fun _ => hK M' f1 ?_, fun c => absurd (by rw [f1 0 (by omega), h18, q_le (by omega) (by omega)]; omega) c⟩
      rw [← he]
      show ∀ i x, (A ++ [])[i]? = some x → _
      rw [List.append_nil]
      exact f2
    | succ n ih =>
      intro t u d A M' ht hA hu hd he f1 f2
      have fp := fct_pos n
      have f7 := fct_le (n := n) (by omega)
      have f8 := fct_le (n := n+1) (by omega)
      have hq : d / fct n < n + 1 := by
        rw [Nat.div_lt_iff_lt_mul fp]
        rw [Nat.mul_comm]
        exact hd
      have hr : d % fct n < fct n := Nat.mod_lt _ fp
      rw [show n + 1 - 1 = n from rfl]
      have e18 : M'.1 0 18 = nI m := by rw [f1 0 (by omega)]; exact h18
      -- the search for the place
      have find : ∀ (r i : Nat), i + r = m → ((List.range i).filter (fun i => !bt u i)).length ≤ d / fct n → G89 u (nI (d % fct n)) (nI (fct (n-1))) (nI t) (nI (d / fct n - ((List.range i).filter (fun i => !bt u i)).length)) (nI i) M' := by
        intro r
        induction r with
        | zero =>
          intro i hi hl
          have : ((List.range i).filter (fun i => !bt u i)).length = n + 1 := by rw [show i = m by omega]; exact hu
          omega
        | succ r ihr =>
          intro i hi hl
          have hi6 : i < 6 := by omega
          have on : ∀ z0 v : Int32, v - z0 = nI (d / fct n - ((List.range (i+1)).filter (fun i => !bt u i)).length) → ((List.range (i+1)).filter (fun i => !bt u i)).length ≤ d / fct n → G121 u (nI (d % fct n)) (nI (fct (n-1))) (nI t) (nI i) z0 v M' := by
            intro z0 v hv hl'
            refine h121 _ _ _ _ _ _ _ _ (fun y19 e19 y20 e20 => ?_)
            rw [e20, nI_1, e19, hv]
            exact ihr (i+1) (by omega) hl'
          refine h89 _ _ _ _ _ _ _ ?_
          rw [hb_iff _ (by omega)]
          cases hb : bt u i with
          | true =>
            refine ⟨fun _ => h104 _ _ _ _ _ _ _ ?_, fun c => absurd rfl c⟩
            rw [hb_iff _ (by omega), hb]
            have e : ((List.range (i+1)).filter (fun i => !bt u i)) = (List.range i).filter (fun i => !bt u i) := by rw [List.range_succ, List.filter_append]; simp [hb]
            refine ⟨fun c => absurd rfl c, fun _ => on 0 _ ?_ (by rw [e]; exact hl)⟩
            rw [e]
            show nI _ - nI 0 = _
            rw [pk_sub (by omega)]
            rfl
          | false =>
            refine ⟨fun c => (by cases c), fun _ => ⟨fun z => ?_, fun z => ?_⟩⟩
            · have z : nI (d / fct n - ((List.range i).filter (fun i => !bt u i)).length) ≤ nI 0 := z
              rw [q_le (by omega) (by omega)] at z
              have eq : ((List.range i).filter (fun i => !bt u i)).length = d / fct n := by omega
              intro y13 e13
              refine ⟨v_in hi6 (by omega), v_in (by omega) (by omega), fun μ16 e16 y17 e17 => ?_⟩
              rw [q_cl (by omega), q_cl (by omega)] at e16
              obtain ⟨R, s1, s2⟩ := unu_split (by omega : i < m) hm6 hb
              have hU : U0[i]? = some (U0.getD i 0) := by rw [List.getD_eq_getElem?_getD, List.getElem?_eq_getElem (by omega)]; rfl
              rw [f1 14 (by omega), h14 i _ hU] at e16
              rw [e17, nI_1, e13, e16, show nI (fct (n-1)) = nI (fct (n-1)) from rfl]
              have hmap : (unu m u).map (fun i => U0.getD i 0) = ((List.range i).filter (fun i => !bt u i)).map (fun i => U0.getD i 0) ++ U0.getD i 0 :: R.map (fun i => U0.getD i 0) := by rw [s1]; simp
              have hml : (((List.range i).filter (fun i => !bt u i)).map (fun i => U0.getD i 0)).length = d / fct n := by rw [List.length_map]; exact eq
              refine ih (t+1) _ (d % fct n) (A ++ [U0.getD i 0]) _ (by omega) (by simp; omega) ?_ hr ?_ (fun p hp => by rw [wI_row hp]; exact f1 p hp) ?_
              · rw [s1] at hu
                rw [s2]
                simp at hu ⊢
                omega
              · rw [← he, s2]
                show _ = A ++ (((unu m u).map (fun i => U0.getD i 0)).getD (d / fct n) 0 :: dec n (((unu m u).map (fun i => U0.getD i 0)).eraseIdx (d / fct n)) (d % fct n))
                rw [hmap, ← hml, get_mid, er_mid, List.map_append]
                simp
              · intro j x hj
                rw [wI_at]
                rcases Nat.lt_or_ge j A.length with y | y
                · rw [List.getElem?_append_left y] at hj
                  rw [if_neg (by omega)]
                  exact f2 j x hj
                · rw [List.getElem?_append_right y] at hj
                  have : j = A.length := by
                    rcases Nat.lt_or_ge (j - A.length) 1 with w | w
                    · omega
                    · rw [List.getElem?_eq_none (by simpa using w)] at hj; cases hj
                  subst this
                  rw [Nat.sub_self] at hj
                  rw [if_pos ⟨rfl, hA⟩]
                  have : U0.getD i 0 = x := Option.some.inj hj
                  rw [this]
            · have z : ¬ nI (d / fct n - ((List.range i).filter (fun i => !bt u i)).length) ≤ nI 0 := z
              rw [q_le (by omega) (by omega)] at z
              have e : ((List.range (i+1)).filter (fun i => !bt u i)).length = ((List.range i).filter (fun i => !bt u i)).length + 1 := by rw [List.range_succ, List.filter_append]; simp [hb]
              refine h104 _ _ _ _ _ _ _ ?_
              rw [hb_iff _ (by omega), hb]
              refine ⟨fun _ => on 1 _ ?_ (by rw [e]; omega), fun c => by cases c⟩
              rw [e]
              show nI _ - nI 1 = _
              rw [pk_sub (by omega)]
              congr 1
      have found : G89 u (nI (d % fct n)) (nI (fct (n-1))) (nI t) (nI (d / fct n)) 0 M' := find m 0 (by omega) (by simp)
      refine h35 _ _ _ _ _ ⟨fun c => absurd c (by rw [e18, q_le (by omega) (by omega)]; omega), fun _ => ?_⟩
      have ne0 : ¬ nI (fct n) = 0 := nI_ne0 fp (by omega)
      have e1 : nI d / nI (fct n) = nI (d / fct n) := pk_div (by omega) fp (by omega)
      have e2 : nI d - nI d / nI (fct n) * nI (fct n) = nI (d % fct n) := pk_rem (by omega) fp (by omega)
      refine ⟨ne0, fun y6 e6 => ⟨ne0, fun y8 e8 => ?_⟩⟩
      rw [e1] at e6
      rw [e2] at e8
      have e3 : (M'.1 0 18 - 1 - nI t : Int32) = nI n := by
        rw [e18]
        show nI m - nI 1 - nI t = _
        rw [pk_sub (by omega), pk_sub (by omega)]
        congr 1
        omega
      rw [e3, e6, e8]
      refine ⟨fun z => h84 _ _ _ _ _ _ ?_, fun z => ?_⟩
      · have z : nI n ≤ nI 1 := z
        rw [q_le (by omega) (by omega)] at z
        have : fct (n-1) = 1 := by rw [show n - 1 = 0 by omega]; rfl
        rw [this] at found
        exact found
      · have z : ¬ nI n ≤ nI 1 := z
        rw [q_le (by omega) (by omega)] at z
        refine ⟨nI_ne0 (by omega) (by omega), h84 _ _ _ _ _ _ ?_⟩
        have : nI (fct n) / nI n = nI (fct (n-1)) := by
          rw [pk_div (by omega) (by omega) (by omega)]
          congr 1
          have : fct n = fct (n-1) * n := by
            conv => lhs; rw [show n = (n-1)+1 by omega]
            show fct (n-1) * ((n-1)+1) = _
            rw [show n - 1 + 1 = n by omega]
          rw [this, Nat.mul_div_cancel _ (by omega)]
        rw [this]
        exact found
  -- the factorial
  have fac : ∀ (r b : Nat), b + r = max m 2 → 2 ≤ b → G10 0 (nI c) (nI (fct (b-1))) (nI b) M := by
    intro r
    induction r with
    | zero =>
      intro b hb h2
      refine h10 _ _ _ _ _ ⟨fun _ => ?_, fun z => absurd (by rw [h18, q_le (by omega) (by omega)]; omega) z⟩
      have eb : fct (b-1) = fct (m-1) := by
        rcases Nat.lt_or_ge m 2 with z | z
        · rw [show b = 2 by omega]
          have : m = 0 ∨ m = 1 := by omega
          rcases this with rfl | rfl <;> rfl
        · rw [show b = m by omega]
      rw [eb]
      have e0 : unu m 0 = List.range m := by
        unfold unu
        apply List.filter_eq_self.mpr
        intro x _
        rw [b_0]
        rfl
      refine place m 0 0 c [] M (by omega) rfl (by rw [e0, List.length_range]) hc ?_ (fun _ _ => rfl) (fun i x hx => by cases hx)
      rw [e0, List.nil_append]
      congr 1
      apply List.ext_getElem
      · simp [hm]
      · intro i h1 h2
        simp [List.getD_eq_getElem?_getD, List.getElem?_eq_getElem h2]
    | succ r ih =>
      intro b hb h2
      refine h10 _ _ _ _ _ ⟨fun z => ?_, fun _ y2 e2 y3 e3 => ?_⟩
      · rw [h18, q_le (by omega) (by omega)] at z
        omega
      · rw [e2, e3, nI_1, pk_mul]
        have : fct (b-1) * b = fct (b+1-1) := by
          rw [show b + 1 - 1 = (b-1)+1 by omega]
          show _ = fct (b-1) * ((b-1)+1)
          rw [show b - 1 + 1 = b by omega]
        rw [this]
        exact ih (b+1) (by omega) (by omega)
  exact fac (max m 2 - 2) 2 (by omega) (by omega)
