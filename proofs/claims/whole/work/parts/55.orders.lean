/-! counting orders: from the front and from the back -/
def sad (D : Int32) (f : Nat) : Int32 := D ||| (1 <<< (nI f &&& 31))
def srm (S : Int32) (f : Nat) : Int32 := S &&& ((1 <<< (nI f &&& 31)) ^^^ (-1))
theorem bt_sad {D : Int32} {f i : Nat} (hf : f < 6) (hi : i < 32) : bt (sad D f) i = if i = f then true else bt D i := bt_on (by omega) hi
theorem bt_srm {D : Int32} {f i : Nat} (hf : f < 6) (hi : i < 32) : bt (srm D f) i = if i = f then false else bt D i := bt_off (by omega) hi
theorem srm_sad {D : Int32} {f : Nat} (hf : f < 6) (h : bt D f = false) : srm (sad D f) f = D := b_ext (fun i hi => by
  rw [bt_srm hf hi, bt_sad hf hi]
  by_cases z : i = f
  · rw [if_pos z, z, h]
  · rw [if_neg z, if_neg z])
theorem sad_srm {S : Int32} {f : Nat} (hf : f < 6) (h : bt S f = true) : sad (srm S f) f = S := b_ext (fun i hi => by
  rw [bt_sad hf hi, bt_srm hf hi]
  by_cases z : i = f
  · rw [if_pos z, z, h]
  · rw [if_neg z, if_neg z])
def can (τ : SU) (D : Int32) (f : Nat) : Bool := suO τ f && (!bt D f && (List.range 6).all (fun g => !(suO τ g && suP τ g f) || bt D g))
def pth (τ : SU) : Nat → Int32 → Int32 → Nat
  | 0, D, S => if D = S then 1 else 0
  | k + 1, D, S => sumN (fun f => if can τ D f then pth τ k (sad D f) S else 0) 6
theorem sum_mul (b : Bool) (g : Nat → Nat) (n : Nat) : (if b then sumN g n else 0) = sumN (fun f => if b then g f else 0) n := by
  cases b with
  | true => rfl
  | false => exact (sum_0 n).symm
theorem pth_back (τ : SU) : ∀ k D S, pth τ (k+1) D S = sumN (fun f => if bt S f && can τ (srm S f) f then pth τ k D (srm S f) else 0) 6
  | 0, D, S => by
    show sumN (fun f => if can τ D f then (if sad D f = S then 1 else 0) else 0) 6 = sumN (fun f => if bt S f && can τ (srm S f) f then (if D = srm S f then 1 else 0) else 0) 6
    refine sum_cg 6 (fun f hf => ?_)
    have key : (can τ D f = true ∧ sad D f = S) ↔ ((bt S f && can τ (srm S f) f) = true ∧ D = srm S f) := by
      rw [Bool.and_eq_true]
      constructor
      · rintro ⟨h1, rfl⟩
        have hb : bt D f = false := by
          unfold can at h1
          simp at h1
          exact h1.2.1
        rw [srm_sad hf hb, bt_sad hf (by omega), if_pos rfl]
        exact ⟨⟨rfl, h1⟩, rfl⟩
      · rintro ⟨⟨h1, h2⟩, h3⟩
        rw [← h3] at h2
        exact ⟨h2, by rw [h3, sad_srm hf h1]⟩
    by_cases z : can τ D f = true ∧ sad D f = S
    · have y := key.mp z
      rw [if_pos z.1, if_pos z.2, if_pos y.1, if_pos y.2]
    · have y : ¬ _ := fun q => z (key.mpr q)
      have l : (if can τ D f = true then (if sad D f = S then 1 else 0) else 0) = 0 := by
        by_cases a : can τ D f = true
        · rw [if_pos a, if_neg (fun b => z ⟨a, b⟩)]
        · rw [if_neg a]
      have r : (if (bt S f && can τ (srm S f) f) = true then (if D = srm S f then 1 else 0) else 0) = 0 := by
        by_cases a : (bt S f && can τ (srm S f) f) = true
        · rw [if_pos a, if_neg (fun b => y ⟨a, b⟩)]
        · rw [if_neg a]
      rw [l, r]
  | k + 1, D, S => by
    show sumN (fun f => if can τ D f then pth τ (k+1) (sad D f) S else 0) 6 = _
    have e1 : sumN (fun f => if can τ D f then pth τ (k+1) (sad D f) S else 0) 6 = sumN (fun f => sumN (fun g => if can τ D f then (if bt S g && can τ (srm S g) g then pth τ k (sad D f) (srm S g) else 0) else 0) 6) 6 := sum_cg 6 (fun f hf => by rw [pth_back τ k (sad D f) S]; exact sum_mul _ _ _)
    have e2 : sumN (fun g => if bt S g && can τ (srm S g) g then pth τ (k+1) D (srm S g) else 0) 6 = sumN (fun g => sumN (fun f => if can τ D f then (if bt S g && can τ (srm S g) g then pth τ k (sad D f) (srm S g) else 0) else 0) 6) 6 := sum_cg 6 (fun g hg => by
      show (if bt S g && can τ (srm S g) g then sumN (fun f => if can τ D f then pth τ k (sad D f) (srm S g) else 0) 6 else 0) = _
      rw [sum_mul]
      refine sum_cg 6 (fun f hf => ?_)
      cases can τ D f <;> cases (bt S g && can τ (srm S g) g) <;> rfl)
    rw [e1, e2, sum_swap]
/-! the reference's count is a count from the front -/
theorem cnt_blk (g : Nat → Bool) (b : Nat) : ∀ a, cntB g (b * a) = sumN (fun q => cntB (fun c => g (b * q + c)) b) a
  | 0 => rfl
  | a + 1 => by
    rw [Nat.mul_succ, cnt_split, cnt_blk g b a]
    rfl
theorem sum_pos (h : Nat → List Nat → Nat) (p : Nat → Bool) : ∀ F, (fun U : List Nat => sumN (fun q => h (U.getD q 0) (U.eraseIdx q)) U.length) ((List.range F).filter p) = sumN (fun f => if p f then h f ((List.range F).filter (fun g => p g && decide (g ≠ f))) else 0) F := by
  intro F
  induction F generalizing h with
  | zero => rfl
  | succ F ih =>
    have fl : ∀ f, f ≠ F → (List.range (F+1)).filter (fun g => p g && decide (g ≠ f)) = (List.range F).filter (fun g => p g && decide (g ≠ f)) ++ (if p F then [F] else []) := by
      intro f hf
      rw [List.range_succ, List.filter_append]
      congr 1
      cases hp : p F with
      | true => simp [hp, Ne.symm hf]
      | false => simp [hp]
    have fF : (List.range F).filter (fun g => p g && decide (g ≠ F)) = (List.range F).filter p := by
      apply List.filter_congr
      intro x hx
      have := List.mem_range.mp hx
      rw [decide_eq_true (by omega), Bool.and_true]
    cases hp : p F with
    | false =>
      have e : (List.range (F+1)).filter p = (List.range F).filter p := by rw [List.range_succ, List.filter_append]; simp [hp]
      rw [e, ih h]
      show _ = sumN _ F + (if p F then _ else 0)
      rw [if_neg (by rw [hp]; exact Bool.false_ne_true), Nat.add_zero]
      refine sum_cg F (fun f hf => ?_)
      rw [fl f (by omega), hp]
      simp
    | true =>
      have e : (List.range (F+1)).filter p = (List.range F).filter p ++ [F] := by rw [List.range_succ, List.filter_append]; simp [hp]
      rw [e]
      have ih' := ih (fun x L => h x (L ++ [F]))
      generalize hU : (List.range F).filter p = U at ih'
      show sumN (fun q => h ((U ++ [F]).getD q 0) ((U ++ [F]).eraseIdx q)) (U ++ [F]).length = sumN _ F + (if p F then h F ((List.range (F+1)).filter (fun g => p g && decide (g ≠ F))) else 0)
      have e3 : (List.range (F+1)).filter (fun g => p g && decide (g ≠ F)) = U := by
        rw [List.range_succ, List.filter_append, fF, hU]
        simp
      rw [if_pos hp, e3, List.length_append]
      show sumN _ U.length + h ((U ++ [F]).getD U.length 0) ((U ++ [F]).eraseIdx U.length) = _
      rw [get_mid F 0 [] U, er_mid F [] U, List.append_nil]
      congr 1
      have e4 : sumN (fun q => h ((U ++ [F]).getD q 0) ((U ++ [F]).eraseIdx q)) U.length = sumN (fun q => h (U.getD q 0) (U.eraseIdx q ++ [F])) U.length := sum_cg _ (fun q hq => by
        rw [List.getD_eq_getElem?_getD, List.getElem?_append_left hq, ← List.getD_eq_getElem?_getD, List.eraseIdx_append_of_lt_length hq])
      rw [e4]
      refine ih'.trans (sum_cg F (fun f hf => ?_))
      rw [fl f (by omega), hp]
      rfl
def ordN (τ : SU) : Nat := cntB (fun c => alw (suP τ) (dec (onL τ).length (onL τ) c)) (fct (onL τ).length)
def blk (τ : SU) (n x : Nat) (L : List Nat) : Nat := if L.all (fun y => !suP τ y x) then cntB (fun c => alw (suP τ) (dec n L c)) (fct n) else 0
theorem front {τ : SU} (ho : okS τ) {on : Int32} (hon : ∀ i, i < 32 → bt on i = suO τ i) : ∀ (n : Nat) (D : Int32), (∀ i, i < 32 → bt D i = true → suO τ i = true) → (uL (fun f => suO τ f && !bt D f)).length = n → cntB (fun c => alw (suP τ) (dec n (uL (fun f => suO τ f && !bt D f)) c)) (fct n) = pth τ n D on
  | 0, D, hD, hn => by
    have e : D = on := b_ext (fun i hi => by
      rw [hon i hi]
      cases hs : suO τ i with
      | false =>
        cases hb : bt D i with
        | false => rfl
        | true => have := hD i hi hb; rw [hs] at this; cases this
      | true =>
        cases hb : bt D i with
        | true => rfl
        | false =>
          have h6 : suF τ ≤ 6 := ho.2.2.1
          have hi6 : i < 6 := by
            rcases Nat.lt_or_ge i (suF τ) with z | z
            · omega
            · rw [ho.2.2.2.2.2.1 i z] at hs; cases hs
          have : i ∈ uL (fun f => suO τ f && !bt D f) := mem_uL.mpr ⟨hi6, by show (suO τ i && !bt D i) = true; rw [hs, hb]; rfl⟩
          rw [List.eq_nil_of_length_eq_zero hn] at this
          cases this)
    show _ = if D = on then 1 else 0
    rw [if_pos e]
    rfl
  | n + 1, D, hD, hn => by
    have fp := fct_pos n
    have ir := ho.2.2.2.2.2.2.2.2
    show cntB _ (fct n * (n+1)) = sumN (fun f => if can τ D f then pth τ n (sad D f) on else 0) 6
    rw [cnt_blk]
    generalize hU : uL (fun f => suO τ f && !bt D f) = U at hn
    have e1 : sumN (fun q => cntB (fun c => alw (suP τ) (dec (n+1) U (fct n * q + c))) (fct n)) (n+1) = sumN (fun q => blk τ n (U.getD q 0) (U.eraseIdx q)) U.length := by
      rw [hn]
      refine sum_cg (n+1) (fun q hq => ?_)
      have hl := len_er hn hq
      have e2 : ∀ c, c < fct n → alw (suP τ) (dec (n+1) U (fct n * q + c)) = ((U.eraseIdx q).all (fun y => !suP τ y (U.getD q 0)) && alw (suP τ) (dec n (U.eraseIdx q) c)) := by
        intro c hc
        have d1 : (fct n * q + c) / fct n = q := by rw [Nat.mul_add_div fp, Nat.div_eq_of_lt hc, Nat.add_zero]
        have d2 : (fct n * q + c) % fct n = c := by rw [Nat.mul_add_mod, Nat.mod_eq_of_lt hc]
        show ((dec n (U.eraseIdx ((fct n * q + c) / fct n)) ((fct n * q + c) % fct n)).all (fun y => !suP τ y (U.getD ((fct n * q + c) / fct n) 0)) && alw (suP τ) (dec n (U.eraseIdx ((fct n * q + c) / fct n)) ((fct n * q + c) % fct n))) = _
        rw [d1, d2]
        congr 1
        rw [Bool.eq_iff_iff, List.all_eq_true, List.all_eq_true]
        constructor
        · intro h y hy
          exact h y ((dec_mem n _ c hl hc y).mpr hy)
        · intro h y hy
          exact h y ((dec_mem n _ c hl hc y).mp hy)
      rw [cntB_congr (fct n) e2]
      unfold blk
      cases hb : (U.eraseIdx q).all (fun y => !suP τ y (U.getD q 0)) with
      | true =>
        simp only [Bool.true_and, if_true]
      | false =>
        rw [if_neg Bool.false_ne_true]
        exact cnt_0 _ (fun _ _ => rfl)
    rw [e1, ← hU]
    refine (sum_pos (blk τ n) (fun f => suO τ f && !bt D f) 6).trans (sum_cg 6 (fun f hf => ?_))
    -- feature by feature
    have hset : (List.range 6).filter (fun g => (suO τ g && !bt D g) && decide (g ≠ f)) = uL (fun g => suO τ g && !bt (sad D f) g) := by
      unfold uL
      apply List.filter_congr
      intro x hx
      have := List.mem_range.mp hx
      rw [bt_sad hf (by omega)]
      by_cases z : x = f
      · simp [z]
      · rw [if_neg z]; simp [z]
    unfold blk
    rw [hset]
    cases hp : (suO τ f && !bt D f) with
    | false =>
      have : can τ D f = false := by
        unfold can
        rw [← Bool.and_assoc, hp]
        rfl
      rw [this]
      rfl
    | true =>
      have hp' := hp
      rw [Bool.and_eq_true] at hp'
      have hbf : bt D f = false := by simpa using hp'.2
      have hc : (uL (fun g => suO τ g && !bt (sad D f) g)).all (fun y => !suP τ y f) = can τ D f := by
        unfold can
        rw [← Bool.and_assoc, hp, Bool.true_and, Bool.eq_iff_iff, List.all_eq_true, List.all_eq_true]
        constructor
        · intro h g hg
          have hg6 := List.mem_range.mp hg
          cases h1 : suO τ g with
          | false => rfl
          | true =>
            cases h2 : suP τ g f with
            | false => rfl
            | true =>
              cases h3 : bt D g with
              | true => rfl
              | false =>
                have hgf : g ≠ f := fun e => by rw [e, ir f] at h2; cases h2
                have := h g (mem_uL.mpr ⟨hg6, by show (suO τ g && !bt (sad D f) g) = true; rw [bt_sad hf (by omega), if_neg hgf, h1, h3]; rfl⟩)
                rw [h2] at this
                cases this
        · intro h y hy
          have hy' := mem_uL.mp hy
          have hy2 : (suO τ y && !bt (sad D f) y) = true := hy'.2
          rw [bt_sad hf (by omega), Bool.and_eq_true] at hy2
          have := h y (List.mem_range.mpr hy'.1)
          by_cases z : y = f
          · rw [if_pos z] at hy2
            exact absurd hy2.2 (by decide)
          · rw [if_neg z] at hy2
            have hb : bt D y = false := by simpa using hy2.2
            rw [hy2.1, hb] at this
            simpa using this
      rw [if_pos rfl, hc]
      cases hcan : can τ D f with
      | false => rfl
      | true =>
        simp only [if_true]
        have hlen : (uL (fun g => suO τ g && !bt (sad D f) g)).length = n := by
          obtain ⟨R, s1, s2⟩ := u_split (S := fun g => suO τ g && !bt D g) hf hp
          have : uL (rmF (fun g => suO τ g && !bt D g) f) = uL (fun g => suO τ g && !bt (sad D f) g) := hset
          rw [← this, s2]
          rw [hU] at s1
          rw [s1] at hn
          simp at hn ⊢
          omega
        exact front ho hon n (sad D f) (fun i hi q => by
          rw [bt_sad hf hi] at q
          by_cases z : i = f
          · rw [z]; exact hp'.1
          · rw [if_neg z] at q; exact hD i hi q) hlen
theorem ordN_pth {τ : SU} (ho : okS τ) {on : Int32} (hon : ∀ i, i < 32 → bt on i = suO τ i) : ordN τ = pth τ (onL τ).length 0 on := by
  have e : uL (fun f => suO τ f && !bt 0 f) = onL τ := by
    unfold uL onL
    apply List.filter_congr
    intro x _
    rw [b_0]
    simp
  have := front ho hon (onL τ).length 0 (fun i _ q => by rw [b_0] at q; cases q) (by rw [e])
  rw [e] at this
  exact this
