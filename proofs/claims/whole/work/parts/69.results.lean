/-! the reference counts kinds -/
theorem wt_len {n k : Nat} (h1 : 1 ≤ n) (hn : n ≤ 8) (hk : k ≤ 4) {A B : Nat → Int32} (hA : rowA n A) (hB : rowA n B) {w : List Nat} (h : wt k A B = some w) : 0 < w.length ∧ w.length ≤ 65 := by
  have := wt_ok h1 hn hk hA hB
  rw [h] at this
  have := bfs_len 65 0 _ w 0 (by simp) this
  omega
/-- the reference's comparing -/
theorem s_cmpM {τ : SU} (ho : okS τ) {M : Mem} (hM : RMS M 1 0 τ) {A B : Nat → Int32} (hA : rowA (suN τ) A) (hB : rowA (suN τ) B) (r7 : isRow M 7 A) (r8 : isRow M 8 B) {K : Int32 → Mem → Prop} (hK : ∀ v M', (∀ p, p < 9 ∨ 13 < p → M'.1 p = M.1 p) → (v = 0 ∧ alk (suK τ) A B ∨ (∃ j, 0 < j ∧ j ≤ 65 ∧ v = nI j) ∧ ¬ alk (suK τ) A B) → K v M') : f_X6_findApart M K := by
  obtain ⟨m, hm⟩ := wt_M (k := suK τ) ho.1.1 ho.1.2 ho.2.1.2 hA hB r7 r8
  refine s_findApart (n := suN τ) ho.1.2 ho.2.1.2 hM.2.1 (fun c hc => by rw [r7 c hc]; exact hA c hc) (fun c hc => by rw [r8 c hc]; exact hB c hc) hm (fun v M' f w => hK v M' f ?_)
  have hw := wt_alk (k := suK τ) ho.1.1 ho.1.2 ho.2.1.2 hA hB
  cases hr : wt (suK τ) A B with
  | none =>
    rw [hr] at w
    exact Or.inl ⟨w, hw.mp hr⟩
  | some l =>
    rw [hr] at w
    have hl := wt_len ho.1.1 ho.1.2 ho.2.1.2 hA hB hr
    refine Or.inr ⟨⟨l.length, hl.1, hl.2, w.1⟩, fun q => ?_⟩
    rw [hw.mpr q] at hr
    cases hr
def mC (τ : SU) (c : Nat) : Nat → Int32 := mO τ (dec (onL τ).length (onL τ) c) (suB τ)
theorem dec_F {τ : SU} (ho : okS τ) {c : Nat} (hc : c < fct (onL τ).length) : ∀ x ∈ dec (onL τ).length (onL τ) c, x < suF τ := fun x hx => by
  rw [dec_mem _ _ c rfl hc] at hx
  exact (onL_lt ho hx).1
theorem rowA_mC {τ : SU} (ho : okS τ) {c : Nat} (hc : c < fct (onL τ).length) : rowA (suN τ) (mC τ c) := rowA_mO ho _ (dec_F ho hc) (rowA_B ho)
theorem s_resM {τ : SU} (ho : okS τ) {M : Mem} (hM : RMS M 1 0 τ) {K : Int32 → Mem → Prop} (hK : ∀ (Kr : List (Nat → Int32)) M', sM M M' → Kr.Pairwise (fun a b => ¬ alk (suK τ) b a) → (∀ B ∈ Kr, ∃ c, c < fct (onL τ).length ∧ B = mC τ c) → (∀ c, c < fct (onL τ).length → ∃ B ∈ Kr, alk (suK τ) (mC τ c) B) → Kr.length ≤ 720 → K (nI Kr.length) M') : f_X6_results M K := by
  intro G9 G33 G100 G47 G143 G108 G92 h9 h33 h100 h47 h143 h108 h92
  have l6 := onL_le τ
  have f7 := fct_le l6
  refine s_findThose ho hM (fun M2 e2 e2' th2 => ?_)
  have sm2 : sM M M2 := ⟨fun p a b => e2 p (by omega) (by omega), e2' 4 (by omega), e2' 6 (by omega)⟩
  have hM2 : RMS M2 1 0 τ := sm2.ms hM
  let m : Nat := fct (onL τ).length
  let J : Nat → List (Nat → Int32) → Mem → Prop := fun c Kr M' => (∀ q, q < 7 ∨ q = 14 → M'.1 q = M2.1 q) ∧ Kr.Pairwise (fun a b => ¬ alk (suK τ) b a) ∧ (∀ B ∈ Kr, ∃ c, c < m ∧ B = mC τ c) ∧ (∀ c', c' < c → ∃ B ∈ Kr, alk (suK τ) (mC τ c') B) ∧ Kr.length ≤ c ∧ ∀ i B, Kr[i]? = some B → ∀ j, j < 32 → M'.1 16 (32*i+j) = B j
  refine lp_up (fun c (s : List (Nat → Int32) × Mem) => G9 (nI m) (nI s.1.length) (nI c) s.2) (fun c s => J c s.1 s.2) m ?_ ?_ 0 ([], M2) (by omega) ⟨fun _ _ => rfl, List.Pairwise.nil, fun B hB => (by cases hB), fun c' hc' => by omega, Nat.le_refl 0, fun i B hB => by cases hB⟩
  · intro s hs
    obtain ⟨a1, a2, a3, a4, a5, a6⟩ := hs
    refine h9 _ _ _ _ ⟨fun _ => hK s.1 s.2 (sm2.tr ⟨fun p a b => a1 p (by omega), by rw [a1 0 (by omega)], by rw [a1 0 (by omega)]⟩) a2 a3 a4 (by have : s.1.length ≤ fct (onL τ).length := a5; omega), fun c => absurd (Int32.le_refl _) c⟩
  · intro c s hc hs ih
    obtain ⟨Kr, M3⟩ := s
    obtain ⟨a1, a2, a3, a4, a5, a6⟩ := hs
    have a1 : ∀ q, q < 7 ∨ q = 14 → M3.1 q = M2.1 q := a1
    have a5 : Kr.length ≤ c := a5
    have hc' : c < fct (onL τ).length := hc
    have hA := rowA_mC ho hc'
    have next : ∀ Kr' M', J (c+1) Kr' M' → G143 (nI m) (nI Kr'.length) (nI c) M' := fun Kr' M' hJ => h143 _ _ _ _ (fun y e => by rw [e, nI_1]; exact ih (Kr', M') hJ)
    refine h9 _ _ _ _ ⟨fun z => absurd z (by rw [q_le (by omega) (by omega)]; omega), fun _ => ?_⟩
    refine s_findOrder rfl l6 (by rw [a1 0 (by omega)]; exact th2.1) (fun i x hx => by rw [a1 14 (by omega)]; exact th2.2 i x hx) hc' (fun M4 e4 h15 => ?_)
    have b4 : ∀ q, q < 7 ∨ q = 14 → M4.1 q = M2.1 q := fun q hq => by rw [e4 q (by omega), a1 q hq]
    refine s_putsOrder ho (Or.inl rfl) (hM2.fr (b4 1 (by omega))) (l := dec (onL τ).length (onL τ) c) (by rw [dec_len]; exact l6) (dec_F ho hc') (by rw [dec_len, b4 0 (by omega)]; exact th2.1) h15 (fun M5 e5 r5 => ?_)
    have b5 : ∀ q, q < 7 ∨ q = 14 → M5.1 q = M2.1 q := fun q hq => by rw [e5 q (by omega), b4 q hq]
    have c5 : M5.1 16 = M3.1 16 := by rw [e5 16 (by omega), e4 16 (by omega)]
    have r5 : isRow M5 7 (mC τ c) := r5
    -- comparing with those kept
    have known : ∀ M', (∀ q, q < 7 ∨ q = 14 → M'.1 q = M2.1 q) → M'.1 16 = M3.1 16 → (∃ B ∈ Kr, alk (suK τ) (mC τ c) B) → G100 (nI m) (nI Kr.length) (nI c) 0 M' := by
      intro M' u v hB
      refine h100 _ _ _ _ _ ⟨fun _ => next Kr M' ⟨u, a2, a3, fun c' hc'' => ?_, by omega, fun i B hB => by rw [v]; exact a6 i B hB⟩, fun z => absurd rfl z⟩
      rcases Nat.lt_or_ge c' c with z | z
      · exact a4 c' z
      · rw [show c' = c by omega]; exact hB
    refine lp_up (fun i (s : Bool × Mem) => G33 (nI m) (nI Kr.length) (nI c) (if s.1 then 1 else 0) (nI i) s.2) (fun i s => (∀ q, q < 7 ∨ q = 14 → s.2.1 q = M2.1 q) ∧ s.2.1 16 = M3.1 16 ∧ s.2.1 7 = M5.1 7 ∧ ((s.1 = true ∧ ∀ i' B, i' < i → Kr[i']? = some B → ¬ alk (suK τ) (mC τ c) B) ∨ (s.1 = false ∧ ∃ B ∈ Kr, alk (suK τ) (mC τ c) B))) Kr.length ?_ ?_ 0 (true, M5) (by omega) ⟨b5, c5, rfl, Or.inl ⟨rfl, fun i' B hi' => by omega⟩⟩
    · intro s hs
      obtain ⟨u1', u2, u3, u4⟩ := hs
      refine h33 _ _ _ _ _ _ ⟨fun _ => ?_, fun z => absurd (Int32.le_refl _) z⟩
      rcases u4 with ⟨hf, hn⟩ | ⟨hf, hB⟩
      · rw [hf]
        refine h100 _ _ _ _ _ ⟨fun z => absurd z (show ¬ (1 : Int32) = 0 by decide), fun _ => ?_⟩
        have hnone : ∀ B ∈ Kr, ¬ alk (suK τ) (mC τ c) B := by
          intro B hB
          obtain ⟨i, hi⟩ := List.getElem?_of_mem hB
          refine hn i B ?_ hi
          rcases Nat.lt_or_ge i Kr.length with z | z
          · exact z
          · rw [List.getElem?_eq_none z] at hi; cases hi
        -- keep it
        refine lp_up (fun j (M' : Mem) => G108 (nI m) (nI Kr.length) (nI c) (nI j) M') (fun j M' => (∀ q, q ≠ 16 → M'.1 q = s.2.1 q) ∧ ∀ t, M'.1 16 t = if 32 * Kr.length ≤ t ∧ t < 32 * Kr.length + j then M5.1 7 (t - 32 * Kr.length) else M3.1 16 t) 32 ?_ ?_ 0 s.2 (by omega) ⟨fun _ _ => rfl, fun t => by rw [if_neg (by omega), u2]⟩
        · intro M' h'
          refine h108 _ _ _ _ _ ⟨fun _ y e => ?_, fun z => absurd (Int32.le_refl 32) z⟩
          rw [e, nI_1]
          have := next (Kr ++ [mC τ c]) M' ⟨fun q hq => by rw [h'.1 q (by omega)]; exact u1' q hq, List.pairwise_append.mpr ⟨a2, List.pairwise_singleton _ _, fun a ha b hb => by rw [List.mem_singleton.mp hb]; exact hnone a ha⟩, fun B hB => ?_, fun c' hc'' => ?_, by rw [List.length_append]; show Kr.length + 1 ≤ c + 1; omega, fun i B hB j hj => ?_⟩
          · rw [List.length_append] at this
            exact this
          · rcases List.mem_append.mp hB with q | q
            · exact a3 B q
            · exact ⟨c, hc, List.mem_singleton.mp q⟩
          · rcases Nat.lt_or_ge c' c with z | z
            · obtain ⟨B, hB, ha⟩ := a4 c' z
              exact ⟨B, List.mem_append_left _ hB, ha⟩
            · rw [show c' = c by omega]
              exact ⟨mC τ c, by simp, alk_rf _ _⟩
          · rw [h'.2]
            rcases Nat.lt_or_ge i Kr.length with z | z
            · rw [List.getElem?_append_left z] at hB
              rw [if_neg (by omega)]
              exact a6 i B hB j hj
            · rw [List.getElem?_append_right z] at hB
              have hv' : i = Kr.length := by
                rcases Nat.lt_or_ge (i - Kr.length) 1 with w | w
                · omega
                · rw [List.getElem?_eq_none (by simpa using w)] at hB; cases hB
              subst hv'
              rw [Nat.sub_self] at hB
              have hB : mC τ c = B := Option.some.inj hB
              rw [if_pos (by omega), show 32 * Kr.length + j - 32 * Kr.length = j by omega, r5 j hj, hB]
        · intro j M' hj h' ihj
          have eix : (32 * nI Kr.length + nI j : Int32) = nI (32 * Kr.length + j) := by show nI 32 * _ + _ = _; rw [pk_mul, nI_add]
          refine h108 _ _ _ _ _ ⟨fun z => absurd z (by show ¬ nI 32 ≤ nI j; rw [q_le (by omega) (by omega)]; omega), fun _ => ?_⟩
          rw [eix]
          refine ⟨v_in hj (by omega), v_in (by omega) (by omega), fun μ24 e24 y e => ?_⟩
          rw [e, nI_1]
          rw [q_cl (by omega), q_cl (by omega), h'.1 7 (by omega), u3] at e24
          rw [e24]
          refine ihj _ ⟨fun q hq => by rw [wI_row hq]; exact h'.1 q hq, fun t => ?_⟩
          rw [wI_at]
          by_cases z : t = 32 * Kr.length + j
          · rw [if_pos ⟨rfl, z⟩, if_pos (by omega), z, show 32 * Kr.length + j - 32 * Kr.length = j by omega]
          · rw [if_neg (fun q => z q.2), h'.2 t]
            by_cases w : 32 * Kr.length ≤ t ∧ t < 32 * Kr.length + j
            · rw [if_pos w, if_pos (by omega)]
            · rw [if_neg w, if_neg (by omega)]
      · rw [hf]
        exact known s.2 u1' u2 hB
    · intro i s hi hs ihi
      obtain ⟨u1', u2, u3, u4⟩ := hs
      have gi : Kr[i]? = some (Kr[i]'hi) := List.getElem?_eq_getElem _
      generalize (Kr[i]'hi) = B at gi
      refine h33 _ _ _ _ _ _ ⟨fun z => absurd z (by rw [q_le (by omega) (by omega)]; omega), fun _ => ?_⟩
      rcases u4 with ⟨hf, hn⟩ | ⟨hf, hB⟩
      · rw [hf]
        refine ⟨fun z => absurd z (show ¬ (1 : Int32) = 0 by decide), fun _ => ?_⟩
        -- fetch it
        refine lp_up (fun j (M' : Mem) => G47 (nI m) (nI Kr.length) (nI c) (nI i) (nI j) M') (fun j M' => (∀ q, q ≠ 8 → M'.1 q = s.2.1 q) ∧ ∀ t, t < j → M'.1 8 t = B t) 32 ?_ ?_ 0 s.2 (by omega) ⟨fun _ _ => rfl, fun t ht => by omega⟩
        · intro M' h'
          refine h47 _ _ _ _ _ _ ⟨fun _ => ?_, fun z => absurd (Int32.le_refl 32) z⟩
          obtain ⟨cB, hcB, eB⟩ := a3 B (List.mem_of_getElem? gi)
          have hB : rowA (suN τ) B := by rw [eB]; exact rowA_mC ho hcB
          refine s_cmpM ho (hM2.fr (by rw [h'.1 1 (by omega), u1' 1 (by omega)])) hA hB (fun t ht => by rw [h'.1 7 (by omega), u3]; exact r5 t ht) h'.2 (fun v M6 f6 hv => ?_)
          have w1 : ∀ q, q < 7 ∨ q = 14 → M6.1 q = M2.1 q := fun q hq => by rw [f6 q (by omega), h'.1 q (by omega), u1' q hq]
          have w2 : M6.1 16 = M3.1 16 := by rw [f6 16 (by omega), h'.1 16 (by omega), u2]
          have w3 : M6.1 7 = M5.1 7 := by rw [f6 7 (by omega), h'.1 7 (by omega), u3]
          rcases hv with ⟨e0, ha⟩ | ⟨⟨j, j1, j2, e0⟩, ha⟩
          · rw [e0]
            refine ⟨fun _ => h92 _ _ _ _ _ _ (fun y e => ?_), fun z => absurd (Int32.le_refl 0) z⟩
            rw [e, nI_1]
            exact ihi (false, M6) ⟨w1, w2, w3, Or.inr ⟨rfl, B, List.mem_of_getElem? gi, ha⟩⟩
          · rw [e0]
            refine ⟨fun z => absurd z (nI_nle j1 (by omega)), fun _ => h92 _ _ _ _ _ _ (fun y e => ?_)⟩
            rw [e, nI_1]
            refine ihi (true, M6) ⟨w1, w2, w3, Or.inl ⟨rfl, fun i' B' hi' hB' => ?_⟩⟩
            rcases Nat.lt_or_ge i' i with z | z
            · exact hn i' B' z hB'
            · rw [show i' = i by omega, gi] at hB'
              rw [← Option.some.inj hB']; exact ha
        · intro j M' hj h' ihj
          have eix : (32 * nI i + nI j : Int32) = nI (32 * i + j) := by show nI 32 * _ + _ = _; rw [pk_mul, nI_add]
          refine h47 _ _ _ _ _ _ ⟨fun z => absurd z (by show ¬ nI 32 ≤ nI j; rw [q_le (by omega) (by omega)]; omega), fun _ => ?_⟩
          rw [eix]
          refine ⟨v_in (by omega) (by omega), v_in hj (by omega), fun μ17 e17 y e => ?_⟩
          rw [e, nI_1]
          rw [q_cl (by omega), q_cl (by omega), h'.1 16 (by omega), u2, a6 i B gi j hj] at e17
          rw [e17]
          refine ihj _ ⟨fun q hq => by rw [wI_row hq]; exact h'.1 q hq, fun t ht => ?_⟩
          rw [wI_at]
          by_cases z : t = j
          · rw [if_pos ⟨rfl, z⟩, z]
          · rw [if_neg (by omega)]; exact h'.2 t (by omega)
      · rw [hf]
        exact ⟨fun _ => known s.2 u1' u2 hB, fun z => absurd rfl z⟩
theorem p_results : LS_results RR := by
  intro X M h
  obtain ⟨τ, h1, h2, h3, h4⟩ := id h
  have ho := h1.1
  have f7 := fct_le (onL_le τ)
  refine s_countKinds ho h1.2.1 false (lim := 720) (by decide) (by decide) (fun N X' sx n1 n2 n3 n4 => ?_)
  refine s_resM ho h1.2.2 (fun Kr M' sm k1 k2 k3 k4 => ⟨?_, h.fr sx sm⟩)
  congr 1
  have sy : ∀ a b, alk (suK τ) a b → alk (suK τ) b a := fun _ _ => alk_sy
  have tr : ∀ a b c, alk (suK τ) a b → alk (suK τ) b c → alk (suK τ) a c := fun _ _ _ => alk_tr
  have pw1 : N.Pairwise (fun a b => ¬ alk (suK τ) a b) := n2.imp (fun hab q => hab (alk_sy q))
  have pw2 : Kr.Pairwise (fun a b => ¬ alk (suK τ) a b) := k1.imp (fun hab q => hab (alk_sy q))
  -- what is walked is an order, and what is numbered has a walked one
  have le1 : N.length ≤ Kr.length := knd_le sy tr N Kr pw1 (fun B hB => by
    obtain ⟨l, hl, eB⟩ := n3 B hB
    obtain ⟨c, hc, e⟩ := dec_ordr (of_wlk l _ _ hl).1
    obtain ⟨B', hB', ha⟩ := k3 c hc
    refine ⟨B', hB', ?_⟩
    rw [eB, ← e]
    exact ha)
  rcases n4 with n4 | n4
  · omega
  · have le2 : Kr.length ≤ N.length := knd_le sy tr Kr N pw2 (fun B hB => by
      obtain ⟨c, hc, eB⟩ := k2 B hB
      have all0 : ∀ l : List Nat, alw (pri τ false) l = true := by
        intro l
        induction l with
        | nil => rfl
        | cons a t ih =>
          show (t.all (fun y => !pri τ false y a) && alw (pri τ false) t) = true
          rw [ih, Bool.and_true, List.all_eq_true]
          intro y _
          rfl
      obtain ⟨l', hw, he⟩ := walk_ex (τ := τ) (P := pri τ false) (fun _ => rfl) (suB τ) _ _ (Nat.le_refl _) (ordr_dec hc) (all0 _)
      obtain ⟨B', hB', ha⟩ := n4 l' hw
      refine ⟨B', hB', ?_⟩
      rw [eB]
      exact alk_tr (alk_row ho.1.1 ho.1.2 ho.2.1.2 (rowA_mC ho hc) he) ha)
    omega
