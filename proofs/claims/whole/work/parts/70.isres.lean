def irP (τ : SU) : Prop := ∀ c, c < fct (onL τ).length → alw (suP τ) (dec (onL τ).length (onL τ) c) = true → alk (suK τ) (mO τ (roL τ) (suB τ)) (mC τ c)
theorem s_irM {τ : SU} (ho : okS τ) {M : Mem} (hM : RMS M 1 0 τ) {K : Int32 → Mem → Prop} (hK : ∀ v M', sM M M' → (v = 1 ∧ irP τ ∨ v = 0 ∧ ¬ irP τ) → K v M') : f_X6_isResolvedNow M K := by
  intro G23 G73 G67 G66 h23 h73 h67 h66
  have h6 : suF τ ≤ 6 := ho.2.2.1
  have l6 := onL_le τ
  have f7 := fct_le l6
  have oR := rowA_mO ho (roL τ) (fun x hx => roL_lt ho hx) (rowA_B ho)
  refine s_frM ho hM (fun M1 sm th bh h15 => ?_)
  refine s_putsOrder ho (Or.inl rfl) (sm.ms hM) (l := roL τ) (by rw [roL_len]; exact l6) (fun x hx => roL_lt ho hx) (by rw [roL_len]; exact th.1) h15 (fun M2 e2 r2 => ?_)
  have sm2 : sM M M2 := sm.tr ⟨fun p a b => e2 p (by omega), by rw [e2 0 (by omega)], by rw [e2 0 (by omega)]⟩
  refine s_findThose ho (sm2.ms hM) (fun M3 e3 e3' th3 => ?_)
  have sm3 : sM M M3 := sm2.tr ⟨fun p a b => e3 p (by omega) (by omega), e3' 4 (by omega), e3' 6 (by omega)⟩
  have hM3 := sm3.ms hM
  have bh3 : BH τ M3 := fun f hf g hg => by rw [e3 17 (by omega) (by omega), e2 17 (by omega)]; exact bh f hf g hg
  have r3 : isRow M3 7 (mO τ (roL τ) (suB τ)) := fun c hc => by rw [e3 7 (by omega) (by omega)]; exact r2 c hc
  let J : Nat → Bool × Mem → Prop := fun c s => (∀ q, q < 8 ∨ q = 14 ∨ q = 17 → s.2.1 q = M3.1 q) ∧ ((s.1 = true ∧ ∀ c', c' < c → alw (suP τ) (dec (onL τ).length (onL τ) c') = true → alk (suK τ) (mO τ (roL τ) (suB τ)) (mC τ c')) ∨ (s.1 = false ∧ ¬ irP τ))
  have fin : ∀ (s : Bool × Mem), (∀ q, q < 8 ∨ q = 14 ∨ q = 17 → s.2.1 q = M3.1 q) → ((s.1 = true ∧ irP τ) ∨ (s.1 = false ∧ ¬ irP τ)) → G73 (if s.1 then 1 else 0) s.2 := by
    intro s hf hc
    have sm4 : sM M s.2 := sm3.tr ⟨fun p a b => hf p (by omega), by rw [hf 0 (by omega)], by rw [hf 0 (by omega)]⟩
    rcases hc with ⟨e, hp⟩ | ⟨e, hp⟩
    · rw [e]
      exact h73 _ _ ⟨fun z => absurd z (show ¬ (1 : Int32) = 0 by decide), fun _ => hK 1 s.2 sm4 (Or.inl ⟨rfl, hp⟩)⟩
    · rw [e]
      exact h73 _ _ ⟨fun _ => hK 0 s.2 sm4 (Or.inr ⟨rfl, hp⟩), fun z => absurd rfl z⟩
  refine lp_up (fun c (s : Bool × Mem) => G23 (nI (fct (onL τ).length)) (if s.1 then 1 else 0) (nI c) s.2) J (fct (onL τ).length) ?_ ?_ 0 (true, M3) (by omega) ⟨fun _ _ => rfl, Or.inl ⟨rfl, fun c' hc' => by omega⟩⟩
  · intro s hs
    refine h23 _ _ _ _ ⟨fun _ => fin s hs.1 ?_, fun z => absurd (Int32.le_refl _) z⟩
    rcases hs.2 with ⟨e, h⟩ | h
    · exact Or.inl ⟨e, h⟩
    · exact Or.inr h
  · intro c s hc hs ih
    obtain ⟨fl, M4⟩ := s
    obtain ⟨a1, a2⟩ := hs
    have a1 : ∀ q, q < 8 ∨ q = 14 ∨ q = 17 → M4.1 q = M3.1 q := a1
    refine h23 _ _ _ _ ⟨fun z => absurd z (by rw [q_le (by omega) (by omega)]; omega), fun _ => ?_⟩
    rcases a2 with ⟨e, h⟩ | ⟨e, hp⟩
    · have e : fl = true := e
      subst e
      refine ⟨fun z => absurd z (show ¬ (1 : Int32) = 0 by decide), fun _ => ?_⟩
      have next : ∀ (fl : Bool) M', J (c+1) (fl, M') → G67 (nI (fct (onL τ).length)) (if fl then 1 else 0) (nI c) M' := fun fl M' hJ => h67 _ _ _ _ (fun y e => by rw [e, nI_1]; exact ih (fl, M') hJ)
      refine s_findOrder rfl l6 (by rw [a1 0 (by omega)]; exact th3.1) (fun i x hx => by rw [a1 14 (by omega)]; exact th3.2 i x hx) hc (fun M5 e5 h15' => ?_)
      have b5 : ∀ q, q < 8 ∨ q = 14 ∨ q = 17 → M5.1 q = M3.1 q := fun q hq => by rw [e5 q (by omega), a1 q hq]
      have bh5 : BH τ M5 := fun f hf g hg => by rw [b5 17 (by omega)]; exact bh3 f hf g hg
      have t18 : M5.1 0 18 = nI (dec (onL τ).length (onL τ) c).length := by rw [dec_len, b5 0 (by omega)]; exact th3.1
      refine s_isAllowed ho bh5 (l := dec (onL τ).length (onL τ) c) (by rw [dec_len]; exact l6) (fun x hx => by have := dec_F ho hc x hx; omega) t18 h15' ?_
      cases ha : alw (suP τ) (dec (onL τ).length (onL τ) c) with
      | false =>
        refine t0 (next true M5 ⟨b5, Or.inl ⟨rfl, fun c' hc' q => ?_⟩⟩)
        rcases Nat.lt_or_ge c' c with z | z
        · exact h c' z q
        · rw [show c' = c by omega, ha] at q; cases q
      | true =>
        refine t1 ?_
        refine s_putsOrder ho (Or.inr rfl) (hM3.fr (b5 1 (by omega))) (l := dec (onL τ).length (onL τ) c) (by rw [dec_len]; exact l6) (dec_F ho hc) t18 h15' (fun M6 e6 r6 => ?_)
        have b6 : ∀ q, q < 8 ∨ q = 14 ∨ q = 17 → M6.1 q = M3.1 q := fun q hq => by rw [e6 q (by omega), b5 q hq]
        refine s_cmpM ho (hM3.fr (b6 1 (by omega))) oR (rowA_mC ho hc) (fun t ht => by rw [b6 7 (by omega)]; exact r3 t ht) r6 (fun v M7 f7' hv => ?_)
        have b7 : ∀ q, q < 8 ∨ q = 14 ∨ q = 17 → M7.1 q = M3.1 q := fun q hq => by rw [f7' q (by omega), b6 q hq]
        rcases hv with ⟨e0, hk⟩ | ⟨⟨j, j1, j2, e0⟩, hk⟩
        · rw [e0]
          refine ⟨fun z => absurd rfl z, fun _ => h66 _ _ _ _ (next true M7 ⟨b7, Or.inl ⟨rfl, fun c' hc' q => ?_⟩⟩)⟩
          rcases Nat.lt_or_ge c' c with z | z
          · exact h c' z q
          · rw [show c' = c by omega]; exact hk
        · rw [e0]
          refine ⟨fun _ => h66 _ _ _ _ (next false M7 ⟨b7, Or.inr ⟨rfl, fun hp => hk (hp c hc ha)⟩⟩), fun z => absurd z (nI_ne0 j1 (by omega))⟩
    · have e : fl = false := e
      subst e
      exact ⟨fun _ => fin (false, M4) a1 (Or.inr ⟨rfl, hp⟩), fun z => absurd rfl z⟩
theorem s_irX {τ : SU} (ho : okS τ) {X : Mem} (hX : RXS X 1 τ) {K : Int32 → Mem → Prop} (hK : ∀ v X', sX X X' → (v = 1 ∧ irP τ ∨ v = 0 ∧ ¬ irP τ) → K v X') : f_X5_isResolved X K := by
  have ir := ho.2.2.2.2.2.2.2.2
  refine s_countKinds ho hX true (lim := 2) (by decide) (by decide) (fun N X' sx n1 n2 n3 n4 => ?_)
  have alwP : ∀ l, alw (pri τ true) l = alw (suP τ) l := fun l => by
    have : pri τ true = suP τ := by funext a b; rfl
    rw [this]
  -- the machines of walked orders are machines of allowed orders
  have mem : ∀ B ∈ N, ∃ c, c < fct (onL τ).length ∧ alw (suP τ) (dec (onL τ).length (onL τ) c) = true ∧ B = mC τ c := by
    intro B hB
    obtain ⟨l, hl, eB⟩ := n3 B hB
    have hw := of_wlk l _ _ hl
    obtain ⟨c, hc, e⟩ := dec_ordr hw.1
    refine ⟨c, hc, by rw [e, ← alwP]; exact hw.2, ?_⟩
    unfold mC
    rw [e]
    exact eB
  refine ⟨fun z => ?_, fun z => ?_⟩
  · have z : nI 2 ≤ nI N.length := z
    rw [q_le (by omega) (by omega)] at z
    refine hK 0 X' sx (Or.inr ⟨rfl, fun hp => ?_⟩)
    match N, z, n2, mem with
    | [], z, _, _ => exact absurd z (by decide)
    | [_], z, _, _ => exact absurd z (show ¬ 2 ≤ 1 by decide)
    | a :: b :: t, _, n2, mem =>
      have hab := (List.pairwise_cons.mp n2).1 b (by simp)
      obtain ⟨c1, q1, q2, q3⟩ := mem a (by simp)
      obtain ⟨c2, p1, p2, p3⟩ := mem b (by simp)
      have ha := hp c1 q1 q2
      have hb := hp c2 p1 p2
      rw [← q3] at ha
      rw [← p3] at hb
      exact hab (alk_tr (alk_sy hb) ha)
  · have z : ¬ nI 2 ≤ nI N.length := z
    rw [q_le (by omega) (by omega)] at z
    refine hK 1 X' sx (Or.inl ⟨rfl, ?_⟩)
    have n4 := n4.resolve_left (by omega)
    -- any allowed order's machine is like one kept; there is but one
    have cover : ∀ c, c < fct (onL τ).length → alw (suP τ) (dec (onL τ).length (onL τ) c) = true → ∃ B ∈ N, alk (suK τ) (mC τ c) B := by
      intro c hc ha
      obtain ⟨l', hw, he⟩ := walk_ex (τ := τ) (P := pri τ true) (fun a => ir a) (suB τ) _ _ (Nat.le_refl _) (ordr_dec hc) (by rw [alwP]; exact ha)
      obtain ⟨B', hB', hk⟩ := n4 l' hw
      exact ⟨B', hB', alk_tr (alk_row ho.1.1 ho.1.2 ho.2.1.2 (rowA_mC ho hc) he) hk⟩
    have one : ∀ B ∈ N, ∀ B' ∈ N, B = B' := by
      intro B hB B' hB'
      match N, z, hB, hB' with
      | [], _, hB, _ => cases hB
      | [a], _, hB, hB' => rw [List.mem_singleton.mp hB, List.mem_singleton.mp hB']
      | _ :: _ :: t, z, _, _ => exact absurd (by simp) z
    obtain ⟨c0, r1, r2, r3, _⟩ := roL_ok ho
    intro c hc ha
    obtain ⟨B, hB, hk⟩ := cover c hc ha
    obtain ⟨B0, hB0, hk0⟩ := cover c0 r1 (by rw [r2]; exact r3)
    rw [one B hB B0 hB0] at hk
    have e0 : mC τ c0 = mO τ (roL τ) (suB τ) := by unfold mC; rw [r2]
    rw [e0] at hk0
    exact alk_tr hk0 (alk_sy hk)
theorem p_isResolved : LS_isResolved RR := by
  intro X M h
  obtain ⟨τ, h1, h2, h3, h4⟩ := id h
  refine s_irX h1.1 h1.2.1 (fun v X' sx hv => ?_)
  refine s_irM h1.1 h1.2.2 (fun v' M' sm hv' => ⟨?_, h.fr sx sm⟩)
  rcases hv with ⟨e, p⟩ | ⟨e, p⟩
  · rcases hv' with ⟨e', p'⟩ | ⟨e', p'⟩
    · rw [e, e']
    · exact absurd p p'
  · rcases hv' with ⟨e', p'⟩ | ⟨e', p'⟩
    · exact absurd p' p
    · rw [e, e']
