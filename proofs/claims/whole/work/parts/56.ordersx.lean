theorem s_orM {τ : SU} (ho : okS τ) {M : Mem} (hM : RMS M 1 0 τ) {K : Int32 → Mem → Prop} (hK : ∀ M', sM M M' → K (nI (ordN τ)) M') : f_X6_ordersNow M K := by
  intro G13 G36 h13 h36
  have h6 : suF τ ≤ 6 := ho.2.2.1
  have l6 := onL_le τ
  have f7 := fct_le l6
  refine s_findBehind ho hM (fun M1 e1 bh1 => ?_)
  refine s_findThose ho (hM.fr (e1 1 (by omega))) (fun M2 e2 e2' th2 => ?_)
  have bh2 : BH τ M2 := fun f hf g hg => by rw [e2 17 (by omega) (by omega)]; exact bh1 f hf g hg
  have sm2 : sM M M2 := ⟨fun p a b => by rw [e2 p (by omega) (by omega), e1 p (by omega)], by rw [e2' 4 (by omega), e1 0 (by omega)], by rw [e2' 6 (by omega), e1 0 (by omega)]⟩
  exact lp_up (fun c (s : Int32 × Mem) => G13 (nI (fct (onL τ).length)) s.1 (nI c) s.2) (fun c s => (∀ p, p ≠ 15 → s.2.1 p = M2.1 p) ∧ s.1 = nI (cntB (fun c => alw (suP τ) (dec (onL τ).length (onL τ) c)) c)) (fct (onL τ).length)
    (fun s hs => h13 _ _ _ _ ⟨fun _ => by
      rw [hs.2]
      exact hK s.2 (sm2.tr ⟨fun p a b => hs.1 p (by omega), by rw [hs.1 0 (by omega)], by rw [hs.1 0 (by omega)]⟩), fun c => absurd (Int32.le_refl _) c⟩)
    (fun c s hc hs ih => by
      refine h13 _ _ _ _ ⟨fun z => absurd z (by rw [q_le (by omega) (by omega)]; omega), fun _ => ?_⟩
      refine s_findOrder rfl l6 (by rw [hs.1 0 (by omega)]; exact th2.1) (fun i x hx => by rw [hs.1 14 (by omega)]; exact th2.2 i x hx) hc (fun M3 e3 h15 => ?_)
      have f3 : ∀ p, p ≠ 15 → M3.1 p = M2.1 p := fun p hp => by rw [e3 p hp, hs.1 p hp]
      have step : ∀ z, s.1 + z = nI (cntB (fun c => alw (suP τ) (dec (onL τ).length (onL τ) c)) (c+1)) → G36 (nI (fct (onL τ).length)) (nI c) z s.1 M3 := fun z hz => h36 _ _ _ _ _ (fun y e y2 e2 => by rw [e2, nI_1]; exact ih (y, M3) ⟨f3, by show y = _; rw [e, hz]⟩)
      refine s_isAllowed ho (fun f hf g hg => by rw [f3 17 (by omega)]; exact bh2 f hf g hg) (l := dec (onL τ).length (onL τ) c) (by rw [dec_len]; exact l6) (fun x hx => by
        rw [dec_mem _ _ c rfl hc] at hx
        have := (onL_lt ho hx).1
        omega) (by rw [dec_len, f3 0 (by omega)]; exact th2.1) h15 ?_
      cases ha : alw (suP τ) (dec (onL τ).length (onL τ) c) with
      | true => exact t1 (step 1 (by rw [hs.2, nI_1, cntB_t (g := fun c => alw (suP τ) (dec (onL τ).length (onL τ) c)) (k := c) ha]))
      | false => exact t0 (step 0 (by rw [hs.2, cntB_f (g := fun c => alw (suP τ) (dec (onL τ).length (onL τ) c)) (k := c) ha]; show nI _ + nI 0 = _; rw [nI_add]; rfl)))
    0 (0, M2) (by omega) ⟨fun _ _ => rfl, rfl⟩
def pcI (S : Int32) : Nat := cntB (bt S) 6
theorem d_64 : ∀ s, s < 64 → ∀ f, f < 6 → bt (nI s) f = true → srm (nI s) f = nI (s - 2^f) ∧ 2^f ≤ s ∧ pcI (nI s) = pcI (nI (s - 2^f)) + 1 := by decide +kernel
theorem cnt_len (g : Nat → Bool) : ∀ n, cntB g n = ((List.range n).filter g).length
  | 0 => rfl
  | n + 1 => by
    rw [List.range_succ, List.filter_append, List.length_append, ← cnt_len g n]
    cases h : g n with
    | true => rw [cntB_t h]; simp [h]
    | false => rw [cntB_f h]; simp [h]
theorem sum_ext0 {g : Nat → Nat} {a : Nat} (h : ∀ c, a ≤ c → g c = 0) : ∀ b, a ≤ b → sumN g b = sumN g a
  | 0, hb => by rw [show a = 0 by omega]
  | b + 1, hb => by
    rcases Nat.lt_or_ge b a with z | z
    · rw [show b + 1 = a by omega]
    · show sumN g b + g b = _
      rw [h b z, Nat.add_zero, sum_ext0 h b z]
theorem b_lt6 {m : Nat} (hm : m < 64) {i : Nat} (h6 : 6 ≤ i) : bt (nI m) i = false := by
  show (BitVec.ofNat 32 m).getLsbD i = false
  rw [BitVec.getLsbD_ofNat]
  have : m.testBit i = false := Nat.testBit_lt_two_pow (Nat.lt_of_lt_of_le hm (Nat.pow_le_pow_right (by decide) h6 : 2^6 ≤ 2^i))
  rw [this, Bool.and_false]
theorem s_orX {τ : SU} (ho : okS τ) {X : Mem} (hX : RXS X 1 τ) {K : Int32 → Mem → Prop} (hK : ∀ X', sX X X' → K (nI (ordN τ)) X') : f_X5_orders X K := by
  intro G9 G48 h9 h48
  have h6 : suF τ ≤ 6 := ho.2.2.1
  have onF : ∀ i, suO τ i = true → i < suF τ := by
    intro i q
    rcases Nat.lt_or_ge i (suF τ) with z | z
    · exact z
    · rw [ho.2.2.2.2.2.1 i z] at q; cases q
  have on0 : ∀ i, 6 ≤ i → suO τ i = false := fun i hi => ho.2.2.2.2.2.1 i (by omega)
  have hb : ∀ i, i < 32 → bt (X.1 1 3) i = suO τ i := hX.2.2.2.1
  obtain ⟨o, ho64, eo⟩ := low_64 (x := X.1 1 3) (fun i h1 h2 => by rw [hb i h2, on0 i h1])
  have hbo : ∀ i, i < 32 → bt (nI o) i = suO τ i := fun i hi => by rw [← eo]; exact hb i hi
  have tgt : ordN τ = pth τ (pcI (nI o)) 0 (nI o) := by
    rw [ordN_pth ho hbo]
    congr 1
    unfold pcI
    rw [cntB_congr 6 (fun c hc => hbo c (by omega)), cnt_len]
    rfl
  refine ⟨v_in (a := 0) (by decide) (by decide), fun μ2 e2 => ?_⟩
  have e2 : μ2 = wA X 40 (upd (X.1 40) 0 1) := e2
  rw [e2]
  let I : Nat → (Nat → Int32) → Prop := fun s R => ∀ s', s' < s → (∀ i, i < 32 → bt (nI s') i = true → suO τ i = true) → R s' = nI (pth τ (pcI (nI s')) 0 (nI s'))
  refine lp_up (fun s (R : Nat → Int32) => G9 (nI s) (wA X 40 R)) (fun s R => 1 ≤ s ∧ I s R) (o+1) ?_ ?_ 1 _ (by omega) ⟨by omega, fun s' hs' _ => ?_⟩
  · intro R hR
    refine h9 _ _ ?_
    rw [wA_ne (by omega), eo, q_lt (by omega) (by omega)]
    refine ⟨fun _ => ⟨v_in ho64 (by omega), ?_⟩, fun c => by omega⟩
    rw [q_cl (by omega), wA_eq, hR.2 o (by omega) (fun i hi q => by rw [hbo i hi] at q; exact q), ← tgt]
    exact hK _ (sX_wA (sX.rf X) (by omega) _)
  · intro s R hs hR ih
    refine h9 _ _ ?_
    rw [wA_ne (by omega), eo, q_lt (by omega) (by omega)]
    refine ⟨fun c => by omega, fun _ => ?_⟩
    have step : ∀ z, ((∀ i, i < 32 → bt (nI s) i = true → suO τ i = true) → z = nI (pth τ (pcI (nI s)) 0 (nI s))) → G48 (nI s) z (nI s) (wA X 40 R) := by
      intro z hz
      refine h48 _ _ _ _ ⟨v_in (by omega) (by omega), fun μ9 e9 y e => ?_⟩
      rw [e, nI_1]
      rw [q_cl (by omega), wI_wA] at e9
      rw [e9]
      refine ih _ ⟨by omega, fun s' hs' hsub => ?_⟩
      rw [upd_at]
      by_cases w : s' = s
      · rw [if_pos w, w]; exact hz (by rw [← w]; exact hsub)
      · rw [if_neg w]; exact hR.2 s' (by omega) hsub
    have sub : (nI s &&& (nI o ^^^ (-1)) = 0) ↔ ∀ i, i < 32 → bt (nI s) i = true → suO τ i = true := by
      rw [bz_iff]
      constructor
      · intro h i hi q
        have := h i hi
        rw [b_and, b_xor, b_m1 i hi, q, hbo i hi] at this
        simpa using this
      · intro h i hi
        rw [b_and, b_xor, b_m1 i hi, hbo i hi]
        cases hq : bt (nI s) i with
        | false => rfl
        | true => rw [h i hi hq]; rfl
    refine ⟨fun c => step 0 (fun q => absurd (sub.mpr q) c), fun c => ?_⟩
    have hsub := sub.mp c
    -- the ways to come to this set
    obtain ⟨k, hk⟩ : ∃ k, pcI (nI s) = k + 1 := by
      cases hq : pcI (nI s) with
      | succ k => exact ⟨k, rfl⟩
      | zero =>
        have all0 : nI s = 0 := bz_iff.mpr (fun i hi => by
          cases hb' : bt (nI s) i with
          | false => rfl
          | true =>
            have := hsub i hi hb'
            have i6 : i < 6 := by have := onF i this; omega
            have := cnt_strict (g := fun _ => false) 6 (fun c _ q => by cases q) i i6 rfl hb'
            unfold pcI at hq
            omega)
        have all0 : nI s = nI 0 := all0
        rw [q_eq (by omega) (by omega)] at all0
        omega
    intro G4 G65 h4 h65
    let trm : Nat → Nat := fun f => if bt (nI s) f && can τ (srm (nI s) f) f then pth τ k 0 (srm (nI s) f) else 0
    have etot : pth τ (pcI (nI s)) 0 (nI s) = sumN trm (suF τ) := by
      rw [hk, pth_back]
      refine sum_ext0 (fun c hc => ?_) 6 h6
      have : bt (nI s) c = false := by
        rcases Nat.lt_or_ge c 32 with z | z
        · cases hq : bt (nI s) c with
          | false => rfl
          | true => have := onF c (hsub c z hq); omega
        · exact b_big z
      rw [this]
      rfl
    refine lp_up (fun f (v : Int32) => G4 (nI s) v (nI f) (wA X 40 R)) (fun f v => v = nI (sumN trm f)) (suF τ) ?_ ?_ 0 0 (by omega) rfl
    · intro v hv
      refine h4 _ _ _ _ ?_
      rw [wA_ne (by omega), hX.2.2.1]
      exact ⟨fun _ => step v (fun _ => by rw [hv, etot]), fun z => absurd (Int32.le_refl _) z⟩
    · intro f v hf hv ihf
      have go : ∀ w, w = nI (sumN trm (f+1)) → G65 (nI s) w (nI f) (wA X 40 R) := fun w hw => h65 _ _ _ _ (fun y e => by rw [e, nI_1]; exact ihf w hw)
      refine h4 _ _ _ _ ?_
      rw [wA_ne (by omega), hX.2.2.1, q_le (by omega) (by omega)]
      refine ⟨fun z => by omega, fun _ y2 ey => ?_⟩
      have ey : y2 = srm (nI s) f := ey
      cases hbf : bt (nI s) f with
      | false =>
        have es : srm (nI s) f = nI s := b_ext (fun i hi => by
          rw [bt_srm (by omega) hi]
          by_cases z : i = f
          · rw [if_pos z, z, hbf]
          · rw [if_neg z])
        rw [ey, es]
        refine ⟨fun _ => go v ?_, fun z => absurd rfl z⟩
        rw [hv]
        show _ = nI (sumN trm f + (if bt (nI s) f && can τ (srm (nI s) f) f then _ else 0))
        rw [hbf]
        rfl
      | true =>
        obtain ⟨d1, d2, d3⟩ := d_64 s (by omega) f (by omega) hbf
        have p2 : 0 < 2^f := Nat.two_pow_pos f
        have hne : ¬ y2 = nI s := by
          rw [ey, d1, q_eq (by omega) (by omega)]
          omega
        refine ⟨fun z => absurd z hne, fun _ => ⟨v_in (by omega) (by omega), ?_⟩⟩
        have e10 : (wA X 40 R).1 10 = X.1 10 := wA_ne (by omega)
        rw [q_cl (by omega), e10, eo]
        have cond : ((X.1 10 f &&& nI o) &&& (y2 ^^^ (-1)) = 0) ↔ can τ (srm (nI s) f) f = true := by
          rw [bz_iff, ey]
          have hof : suO τ f = true := hsub f (by omega) hbf
          have hbs : bt (srm (nI s) f) f = false := by rw [bt_srm (by omega) (by omega), if_pos rfl]
          unfold can
          rw [hof, hbs, Bool.true_and, Bool.not_false, Bool.true_and, List.all_eq_true]
          constructor
          · intro h g hg
            have g6 := List.mem_range.mp hg
            have := h g (by omega)
            rw [b_and, b_and, b_xor, b_m1 g (by omega), hbo g (by omega), show bt (X.1 10 f) g = suP τ g f from hX.2.2.2.2.2.2 f (by omega) g (by omega)] at this
            revert this
            cases suP τ g f <;> cases suO τ g <;> cases bt (srm (nI s) f) g <;> simp
          · intro h i hi
            rw [b_and, b_and, b_xor, b_m1 i hi, hbo i hi, show bt (X.1 10 f) i = suP τ i f from hX.2.2.2.2.2.2 f (by omega) i hi]
            rcases Nat.lt_or_ge i 6 with z | z
            · have := h i (List.mem_range.mpr z)
              revert this
              cases suP τ i f <;> cases suO τ i <;> cases bt (srm (nI s) f) i <;> simp
            · rw [on0 i z]; simp
        have et : sumN trm (f+1) = sumN trm f + (if can τ (srm (nI s) f) f then pth τ k 0 (srm (nI s) f) else 0) := by
          show sumN trm f + (if bt (nI s) f && can τ (srm (nI s) f) f then _ else 0) = _
          rw [hbf, Bool.true_and]
        refine ⟨fun z => go v ?_, fun z => ?_⟩
        · rw [et, if_neg (fun q => z (cond.mpr q)), Nat.add_zero, hv]
        · have hc := cond.mp z
          rw [if_pos hc] at et
          rw [ey, d1]
          refine ⟨v_in (by omega) (by omega), fun y7 e7 => go y7 ?_⟩
          rw [q_cl (by omega), wA_eq, hR.2 (s - 2^f) (by omega) (fun i hi q => by
            rw [← d1, bt_srm (by omega) hi] at q
            by_cases w : i = f
            · rw [if_pos w] at q; cases q
            · rw [if_neg w] at q; exact hsub i hi q)] at e7
          rw [e7, hv, et, nI_add, d1, show pcI (nI (s - 2^f)) = k by omega]
  · rw [show s' = 0 by omega, upd_at, if_pos rfl]
    rfl
theorem p_orders : LS_orders RR := by
  intro X M h
  obtain ⟨τ, h1, h2, h3, h4⟩ := id h
  refine s_orX h1.1 h1.2.1 (fun X' sx => ?_)
  exact s_orM h1.1 h1.2.2 (fun M' sm => ⟨rfl, h.fr sx sm⟩)
