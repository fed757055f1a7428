/-! the resolved order: the lowest that is ready, again and again -/
def uL (S : Nat → Bool) : List Nat := (List.range 6).filter S
def rmF (S : Nat → Bool) (f : Nat) : Nat → Bool := fun g => S g && decide (g ≠ f)
def mnl (P : Nat → Nat → Bool) (S : Nat → Bool) (f : Nat) : Bool := S f && (List.range 6).all (fun g => !(P g f && S g))
def lowR (P : Nat → Nat → Bool) (S : Nat → Bool) : Nat := ((List.range 6).find? (mnl P S)).getD 0
def grL (P : Nat → Nat → Bool) : Nat → (Nat → Bool) → List Nat
  | 0, _ => []
  | n + 1, S => lowR P S :: grL P n (rmF S (lowR P S))
theorem mnl_iff {P : Nat → Nat → Bool} {S : Nat → Bool} {f : Nat} : mnl P S f = true ↔ S f = true ∧ ∀ g, g < 6 → S g = true → P g f = false := by
  unfold mnl
  rw [Bool.and_eq_true, List.all_eq_true]
  constructor
  · rintro ⟨h1, h2⟩
    refine ⟨h1, fun g hg hs => ?_⟩
    have := h2 g (List.mem_range.mpr hg)
    rw [hs] at this
    simpa using this
  · rintro ⟨h1, h2⟩
    refine ⟨h1, fun g hg => ?_⟩
    cases hs : S g with
    | false => simp
    | true => rw [h2 g (List.mem_range.mp hg) hs]; rfl
theorem min_ex {P : Nat → Nat → Bool} (ht : ∀ a b c, P a b = true → P b c = true → P a c = true) (hi : ∀ a, P a a = false) : ∀ (U : List Nat), U ≠ [] → ∃ x ∈ U, ∀ y ∈ U, P y x = false
  | [], h => absurd rfl h
  | [a], _ => ⟨a, by simp, fun y hy => by rw [List.mem_singleton.mp hy]; exact hi a⟩
  | a :: b :: t, _ => by
    obtain ⟨x, hx, h⟩ := min_ex ht hi (b :: t) (by simp)
    cases hp : P a x with
    | false =>
      refine ⟨x, List.mem_cons_of_mem _ hx, fun y hy => ?_⟩
      rcases List.mem_cons.mp hy with e | e
      · rw [e]; exact hp
      · exact h y e
    | true =>
      refine ⟨a, by simp, fun y hy => ?_⟩
      rcases List.mem_cons.mp hy with e | e
      · rw [e]; exact hi a
      · cases hq : P y a with
        | false => rfl
        | true =>
          have := ht y a x hq hp
          rw [h y e] at this
          cases this
theorem mem_uL {S : Nat → Bool} {x : Nat} : x ∈ uL S ↔ x < 6 ∧ S x = true := by
  unfold uL
  rw [List.mem_filter, List.mem_range]
theorem low_ok {P : Nat → Nat → Bool} (ht : ∀ a b c, P a b = true → P b c = true → P a c = true) (hi : ∀ a, P a a = false) {S : Nat → Bool} (hne : uL S ≠ []) : lowR P S < 6 ∧ mnl P S (lowR P S) = true ∧ ∀ f, f < lowR P S → mnl P S f = false := by
  obtain ⟨x, hx, h⟩ := min_ex ht hi (uL S) hne
  have hm : mnl P S x = true := mnl_iff.mpr ⟨(mem_uL.mp hx).2, fun g hg hs => h g (mem_uL.mpr ⟨hg, hs⟩)⟩
  have hx6 := (mem_uL.mp hx).1
  -- the least of them
  have least : ∀ n, n ≤ 6 → (∀ f, f < n → mnl P S f = false) ∨ ∃ f, f < n ∧ (List.range n).find? (mnl P S) = some f ∧ mnl P S f = true ∧ ∀ g, g < f → mnl P S g = false := by
    intro n
    induction n with
    | zero => intro _; exact Or.inl (fun f hf => by omega)
    | succ n ih =>
      intro hn
      rcases ih (by omega) with h | ⟨f, h1, h2, h3⟩
      · cases hc : mnl P S n with
        | false =>
          left
          intro f hf
          rcases Nat.lt_or_ge f n with z | z
          · exact h f z
          · rw [show f = n by omega]; exact hc
        | true =>
          right
          refine ⟨n, by omega, ?_, hc, h⟩
          rw [List.range_succ, List.find?_append]
          have : (List.range n).find? (mnl P S) = none := by
            rw [List.find?_eq_none]
            intro y hy
            rw [h y (List.mem_range.mp hy)]
            exact Bool.false_ne_true
          rw [this]
          simp [hc]
      · right
        refine ⟨f, by omega, ?_, h3⟩
        rw [List.range_succ, List.find?_append, h2]
        rfl
  rcases least 6 (by omega) with z | ⟨f, h1, h2, h3, h4⟩
  · rw [z x hx6] at hm; cases hm
  · have e : lowR P S = f := by unfold lowR; rw [h2]; rfl
    rw [e]
    exact ⟨h1, h3, h4⟩
theorem u_split {S : Nat → Bool} {i : Nat} (hi : i < 6) (hS : S i = true) : ∃ R, uL S = (List.range i).filter S ++ i :: R ∧ uL (rmF S i) = (List.range i).filter S ++ R := by
  obtain ⟨rest, h1, h2⟩ := rng_split 6 hi
  refine ⟨rest.filter S, ?_, ?_⟩
  · unfold uL
    rw [h1, List.filter_append, List.filter_cons_of_pos hS]
  · unfold uL
    rw [h1, List.filter_append, List.filter_cons_of_neg (by unfold rmF; simp)]
    congr 1
    · apply List.filter_congr
      intro x hx
      have := List.mem_range.mp hx
      unfold rmF
      rw [decide_eq_true (by omega), Bool.and_true]
    · apply List.filter_congr
      intro x hx
      have := h2 x hx
      unfold rmF
      rw [decide_eq_true (by omega), Bool.and_true]
theorem first_ok {P : Nat → Nat → Bool} (ht : ∀ a b c, P a b = true → P b c = true → P a c = true) (hi : ∀ a, P a a = false) : ∀ (n : Nat) (S : Nat → Bool), (uL S).length = n → ∃ c, c < fct n ∧ dec n (uL S) c = grL P n S ∧ alw P (dec n (uL S) c) = true ∧ ∀ c', c' < c → alw P (dec n (uL S) c') = false
  | 0, S, _ => ⟨0, by decide, rfl, rfl, fun c' h => by omega⟩
  | n + 1, S, hn => by
    have hne : uL S ≠ [] := fun e => by rw [e] at hn; cases hn
    obtain ⟨l6, lm, ll⟩ := low_ok ht hi hne
    generalize hf0 : lowR P S = f0 at l6 lm ll
    obtain ⟨R, s1, s2⟩ := u_split l6 (mnl_iff.mp lm).1
    have fp := fct_pos n
    have hl : (uL (rmF S f0)).length = n := by
      rw [s1] at hn
      rw [s2]
      simp at hn ⊢
      omega
    obtain ⟨c1, h1, h2, h3, h4⟩ := first_ok ht hi n (rmF S f0) hl
    generalize hA : (List.range f0).filter S = A at s1 s2
    have memA : ∀ x ∈ A, x < f0 ∧ S x = true := by
      intro x hx
      rw [← hA] at hx
      have := List.mem_filter.mp hx
      exact ⟨List.mem_range.mp this.1, this.2⟩
    have hAn : A.length < n + 1 := by rw [← hn, s1]; simp
    have e1 : (A.length * fct n + c1) / fct n = A.length := by
      rw [Nat.mul_comm, Nat.mul_add_div fp, Nat.div_eq_of_lt h1, Nat.add_zero]
    have e2 : (A.length * fct n + c1) % fct n = c1 := by
      rw [Nat.mul_comm, Nat.mul_add_mod, Nat.mod_eq_of_lt h1]
    have ed : ∀ d, d < fct (n+1) → dec (n+1) (uL S) d = (uL S).getD (d / fct n) 0 :: dec n ((uL S).eraseIdx (d / fct n)) (d % fct n) := fun d _ => rfl
    have ez : dec (n+1) (uL S) (A.length * fct n + c1) = f0 :: dec n (uL (rmF S f0)) c1 := by
      show (uL S).getD ((A.length * fct n + c1) / fct n) 0 :: dec n ((uL S).eraseIdx ((A.length * fct n + c1) / fct n)) ((A.length * fct n + c1) % fct n) = _
      rw [e1, e2, s1, get_mid, er_mid, s2]
    refine ⟨A.length * fct n + c1, ?_, ?_, ?_, ?_⟩
    · show _ < fct n * (n+1)
      have : A.length * fct n ≤ n * fct n := Nat.mul_le_mul_right _ (by omega)
      rw [Nat.mul_add, Nat.mul_one, Nat.mul_comm (fct n) n]
      omega
    · rw [ez, h2]
      show _ = lowR P S :: grL P n (rmF S (lowR P S))
      rw [hf0]
    · rw [ez]
      show (_ && _) = true
      rw [h3, Bool.and_true, List.all_eq_true]
      intro y hy
      rw [dec_mem n _ c1 hl h1 y, mem_uL] at hy
      have hy2 : (S y && decide (y ≠ f0)) = true := hy.2
      rw [Bool.and_eq_true] at hy2
      rw [(mnl_iff.mp lm).2 y hy.1 hy2.1]
      rfl
    · intro c' hc'
      have hq : c' / fct n ≤ A.length := by
        have : c' / fct n ≤ (A.length * fct n + c1) / fct n := Nat.div_le_div_right (by omega)
        rwa [e1] at this
      show (((dec n ((uL S).eraseIdx (c' / fct n)) (c' % fct n)).all (fun y => !P y ((uL S).getD (c' / fct n) 0))) && alw P (dec n ((uL S).eraseIdx (c' / fct n)) (c' % fct n))) = false
      have hr : c' % fct n < fct n := Nat.mod_lt _ fp
      rcases Nat.lt_or_ge (c' / fct n) A.length with z | z
      · -- one that is not ready
        have eg : (uL S).getD (c' / fct n) 0 = A[c' / fct n] := by
          rw [s1, List.getD_eq_getElem?_getD, List.getElem?_append_left z, List.getElem?_eq_getElem z]
          rfl
        have hx := memA _ (List.getElem_mem z)
        have hxm := ll _ hx.1
        have : ∃ g, g < 6 ∧ S g = true ∧ P g A[c' / fct n] = true := by
          refine Classical.byContradiction (fun hc => ?_)
          have : mnl P S A[c' / fct n] = true := mnl_iff.mpr ⟨hx.2, fun g hg hs => by
            cases hp : P g A[c' / fct n] with
            | false => rfl
            | true => exact absurd ⟨g, hg, hs, hp⟩ hc⟩
          rw [hxm] at this
          cases this
        obtain ⟨g, g1, g2, g3⟩ := this
        have hmem : g ∈ (uL S).eraseIdx (c' / fct n) := by
          rcases (mem_er (by omega : c' / fct n < (uL S).length) g).mp (mem_uL.mpr ⟨g1, g2⟩) with e | e
          · rw [eg] at e
            rw [← e, hi g] at g3
            cases g3
          · exact e
        have : (dec n ((uL S).eraseIdx (c' / fct n)) (c' % fct n)).all (fun y => !P y ((uL S).getD (c' / fct n) 0)) = false := by
          rw [List.all_eq_false]
          refine ⟨g, (dec_mem n _ _ (len_er hn (by omega)) hr g).mpr hmem, ?_⟩
          rw [eg, g3]
          decide
        rw [this]
        rfl
      · have eq : c' / fct n = A.length := by omega
        have hd := Nat.div_add_mod c' (fct n)
        rw [eq] at hd ⊢
        have e3 : (uL S).eraseIdx A.length = uL (rmF S f0) := by rw [s1, er_mid, s2]
        rw [e3, h4 (c' % fct n) (by rw [Nat.mul_comm] at hd; omega), Bool.and_false]
def roL (τ : SU) : List Nat := grL (suP τ) (onL τ).length (suO τ)
theorem grL_len (P : Nat → Nat → Bool) : ∀ n S, (grL P n S).length = n
  | 0, _ => rfl
  | n + 1, S => by unfold grL; rw [List.length_cons, grL_len P n]
theorem roL_len (τ : SU) : (roL τ).length = (onL τ).length := grL_len _ _ _
theorem roL_ok {τ : SU} (ho : okS τ) : ∃ c, c < fct (onL τ).length ∧ dec (onL τ).length (onL τ) c = roL τ ∧ alw (suP τ) (roL τ) = true ∧ ∀ c', c' < c → alw (suP τ) (dec (onL τ).length (onL τ) c') = false := by
  obtain ⟨c, h1, h2, h3, h4⟩ := first_ok ho.2.2.2.2.2.2.2.1 ho.2.2.2.2.2.2.2.2 (onL τ).length (suO τ) rfl
  exact ⟨c, h1, h2, by rw [h2] at h3; exact h3, h4⟩
theorem roL_lt {τ : SU} (ho : okS τ) {x : Nat} (hx : x ∈ roL τ) : x < suF τ := by
  obtain ⟨c, h1, h2, _⟩ := roL_ok ho
  rw [← h2, dec_mem _ _ c rfl h1] at hx
  exact (onL_lt ho hx).1
theorem s_frM {τ : SU} (ho : okS τ) {M : Mem} (hM : RMS M 1 0 τ) {K : Int32 → Mem → Prop} (hK : ∀ M', sM M M' → TH τ M' → BH τ M' → (∀ i x, (roL τ)[i]? = some x → M'.1 15 i = nI x) → K (nI (roL τ).length) M') : f_X6_findResolved M K := by
  intro G16 h16
  have h6 : suF τ ≤ 6 := ho.2.2.1
  have l6 := onL_le τ
  obtain ⟨c0, h1, h2, h3, h4⟩ := roL_ok ho
  refine s_findBehind ho hM (fun M1 e1 bh1 => ?_)
  have hM1 : RMS M1 1 0 τ := hM.fr (e1 1 (by omega))
  refine s_findThose ho hM1 (fun M2 e2 e2' th2 => ?_)
  have bh2 : BH τ M2 := fun f hf g hg => by rw [e2 17 (by omega) (by omega)]; exact bh1 f hf g hg
  have sm2 : sM M M2 := ⟨fun p a b => by rw [e2 p (by omega) (by omega), e1 p (by omega)], by rw [e2' 4 (by omega), e1 0 (by omega)], by rw [e2' 6 (by omega), e1 0 (by omega)]⟩
  have go : ∀ (r c : Nat) (M3 : Mem), c + r = c0 → (∀ p, p ≠ 15 → M3.1 p = M2.1 p) → (∀ i x, (dec (onL τ).length (onL τ) c)[i]? = some x → M3.1 15 i = nI x) → G16 (nI c) M3 := by
    intro r
    induction r with
    | zero =>
      intro c M3 hc e3 h15
      have ec : c = c0 := by omega
      subst ec
      refine h16 _ _ ?_
      rw [h2] at h15
      have th3 : TH τ M3 := ⟨by rw [e3 0 (by omega)]; exact th2.1, fun i x hx => by rw [e3 14 (by omega)]; exact th2.2 i x hx⟩
      have bh3 : BH τ M3 := fun f hf g hg => by rw [e3 17 (by omega)]; exact bh2 f hf g hg
      refine s_isAllowed ho bh3 (l := roL τ) (by rw [roL_len]; exact l6) (fun x hx => by have := roL_lt ho hx; omega) (by rw [roL_len]; exact th3.1) h15 ?_
      rw [h3]
      refine u1 ?_
      have := hK M3 (sm2.tr ⟨fun p a b => e3 p (by omega), by rw [e3 0 (by omega)], by rw [e3 0 (by omega)]⟩) th3 bh3 h15
      rw [th3.1, ← roL_len]
      exact this
    | succ r ih =>
      intro c M3 hc e3 h15
      refine h16 _ _ ?_
      have th3 : TH τ M3 := ⟨by rw [e3 0 (by omega)]; exact th2.1, fun i x hx => by rw [e3 14 (by omega)]; exact th2.2 i x hx⟩
      have bh3 : BH τ M3 := fun f hf g hg => by rw [e3 17 (by omega)]; exact bh2 f hf g hg
      refine s_isAllowed ho bh3 (l := dec (onL τ).length (onL τ) c) (by rw [dec_len]; exact l6) (fun x hx => by
        rw [dec_mem _ _ c rfl (by omega)] at hx
        have := (onL_lt ho hx).1
        omega) (by rw [dec_len]; exact th3.1) h15 ?_
      rw [h4 c (by omega)]
      refine u0 (fun y10 e10 => ?_)
      rw [e10, nI_1]
      refine s_findOrder rfl l6 th3.1 th3.2 (by omega) (fun M4 e4 h15' => ?_)
      exact ih (c+1) M4 (by omega) (fun p hp => by rw [e4 p hp, e3 p hp]) h15'
  exact s_findOrder (c := 0) rfl l6 th2.1 th2.2 (fct_pos _) (fun M3 e3 h15 => go c0 0 M3 (by omega) e3 h15)
