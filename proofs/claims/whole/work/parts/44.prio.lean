/-! priorities -/
def tX (X X' : Mem) : Prop := (∀ p, p = 0 ∨ (11 ≤ p ∧ p < 33) ∨ p = 34 ∨ p = 36 → X'.1 p = X.1 p) ∧ X'.1 33 1 = X.1 33 1
def tM (M M' : Mem) : Prop := (∀ p, 2 ≤ p → p ≤ 5 → M'.1 p = M.1 p) ∧ M'.1 0 4 = M.1 0 4 ∧ M'.1 0 6 = M.1 0 6
theorem sX.t {X X' : Mem} (h : sX X X') : tX X X' := ⟨fun p hp => h.1 p (by omega), h.2⟩
theorem sM.t {X X' : Mem} (h : sM X X') : tM X X' := ⟨fun p a b => h.1 p (by omega) b, h.2⟩
theorem tX.tr {X Y Z : Mem} (h1 : tX X Y) (h2 : tX Y Z) : tX X Z := ⟨fun p h => (h2.1 p h).trans (h1.1 p h), h2.2.trans h1.2⟩
theorem tM.tr {X Y Z : Mem} (h1 : tM X Y) (h2 : tM Y Z) : tM X Z := ⟨fun p h g => (h2.1 p h g).trans (h1.1 p h g), h2.2.1.trans h1.2.1, h2.2.2.trans h1.2.2⟩
theorem RR_mk {X M X' M' : Mem} {τ τ' : SU} (h2 : RW X M (suK τ)) (h3 : RZ X M) (h4 : RT X M) (h1 : RS X' 1 M' 1 0 τ') (hk : suK τ' = suK τ) (eX : tX X X') (eM : tM M M') : RR X' M' :=
  ⟨τ', h1, by rw [hk]; exact h2.fr (by rw [eX.1 0 (by omega)]) (eX.1 36 (by omega)) eM.2.1 (eM.1 4 (by omega) (by omega)), h3.fr (fun p a b => eX.1 p (by omega)) (eM.1 2 (by omega) (by omega)) (eM.1 3 (by omega) (by omega)), h4.fr eX.2 (eX.1 34 (by omega)) eM.2.2 (eM.1 5 (by omega) (by omega))⟩
theorem s_stands {τ : SU} (ho : okS τ) {X : Mem} (hX : RXS X 1 τ) {f g : Nat} (hf : f < suF τ) (hg : g < suF τ) {K : Int32 → Mem → Prop} (hK : K (if suP τ f g then 1 else 0) X) : f_X2_stands 1 (nI f) (nI g) X K := by
  have h6 : suF τ ≤ 6 := ho.2.2.1
  refine ⟨v_in (by omega) (by omega), ?_⟩
  rw [q_cl (by omega)]
  refine s_hasBit (by omega) ?_
  rw [hX.2.2.2.2.2.2 g (by omega) f (by omega)]
  exact ⟨by cases suP τ f g; exact isB_0; exact isB_1, hK⟩
theorem rch_P {τ : SU} (ho : okS τ) {told : Nat → Nat → Bool} (h : ∀ f g, suP τ f g = true ↔ ∃ n, rch told n f g) : ∀ n f g, rch told n f g → ∃ l : List Nat, l.length = n + 1 ∧ l.Nodup ∧ (∀ x ∈ l, x < suF τ) ∧ ∀ x ∈ l, x = f ∨ suP τ f x = true
  | 0, f, g, hr => ⟨[f], rfl, by simp, by
      intro x hx
      rw [List.mem_singleton.mp hx]
      exact (ho.2.2.2.2.2.2.1 f g ((h f g).mpr ⟨0, hr⟩)).1, by
      intro x hx
      exact Or.inl (List.mem_singleton.mp hx)⟩
  | n + 1, f, g, ⟨k, hk, hr⟩ => by
    obtain ⟨l, h1, h2, h3, h4⟩ := rch_P ho h n k g hr
    have pk : suP τ f k = true := (h f k).mpr ⟨0, hk⟩
    have all : ∀ x ∈ l, suP τ f x = true := fun x hx => by
      rcases h4 x hx with e | e
      · rw [e]; exact pk
      · exact ho.2.2.2.2.2.2.2.1 f k x pk e
    refine ⟨f :: l, by rw [List.length_cons, h1], List.nodup_cons.mpr ⟨fun hx => ?_, h2⟩, ?_, ?_⟩
    · have := all f hx
      rw [ho.2.2.2.2.2.2.2.2 f] at this
      cases this
    · intro x hx
      rcases List.mem_cons.mp hx with e | e
      · rw [e]; exact (ho.2.2.2.2.2.2.1 f k pk).1
      · exact h3 x e
    · intro x hx
      rcases List.mem_cons.mp hx with e | e
      · exact Or.inl e
      · exact Or.inr (all x e)
theorem rch_le {τ : SU} (ho : okS τ) {told : Nat → Nat → Bool} (h : ∀ f g, suP τ f g = true ↔ ∃ n, rch told n f g) {n f g : Nat} (hr : rch told n f g) : n < 6 := by
  obtain ⟨l, h1, h2, h3, h4⟩ := rch_P ho h n f g hr
  have := nd_len l (List.range (suF τ)) h2 (fun x hx => List.mem_range.mpr (h3 x hx))
  rw [List.length_range, h1] at this
  have h6 : suF τ ≤ 6 := ho.2.2.1
  omega
/-- who is behind whom, in the reference's row -/
def BH (τ : SU) (M : Mem) : Prop := ∀ f, f < 6 → ∀ g, g < 32 → bt (M.1 17 f) g = suP τ f g
theorem s_findBehind {τ : SU} (ho : okS τ) {M : Mem} (hM : RMS M 1 0 τ) {K : Mem → Prop} (hK : ∀ M', (∀ p, p ≠ 17 → M'.1 p = M.1 p) → BH τ M' → K M') : f_X6_findBehind M K := by
  intro G2 G48 G39 G56 G64 G101 h2 h48 h39 h56 h64 h101
  have h6 : suF τ ≤ 6 := ho.2.2.1
  obtain ⟨told, ht, htb, htr⟩ := hM.2.2.2.2.2.2
  have toldP : ∀ f g, told f g = true → suP τ f g = true := fun f g q => (htr f g).mpr ⟨0, q⟩
  -- what the row holds after r rounds
  let I : Nat → (Nat → Int32) → Prop := fun r R => (∀ f, f < 6 → ∀ g, g < 32 → bt (R f) g = true → suP τ f g = true) ∧ ∀ n f g, n < r + 1 → rch told n f g → bt (R f) g = true
  have rounds := lp_up (fun r (R : Nat → Int32) => G48 (nI r) (wA M 17 R)) I 6
    (fun R hR => by
      refine h48 _ _ ⟨fun _ => hK _ (fun p hp => wA_ne hp) ?_, fun c => absurd (Int32.le_refl 6) c⟩
      intro f hf g hg
      rw [wA_eq]
      rw [Bool.eq_iff_iff]
      refine ⟨hR.1 f hf g hg, fun q => ?_⟩
      obtain ⟨n, hn⟩ := (htr f g).mp q
      exact hR.2 n f g (by have := rch_le ho htr hn; omega) hn)
    (fun r R hr hR ih => by
      refine h48 _ _ ⟨fun c => absurd c (by show ¬ nI 6 ≤ nI r; rw [q_le (by omega) (by omega)]; omega), fun _ => ?_⟩
      -- one round
      let J : Nat → Nat → (Nat → Int32) → Prop := fun a b S => (∀ f, f < 6 → ∀ g, g < 32 → bt (S f) g = true → suP τ f g = true) ∧ (∀ f g, f < 6 → g < 32 → bt (R f) g = true → bt (S f) g = true) ∧ ∀ f h g, f < 6 → h < 6 → g < 32 → (f < a ∨ (f = a ∧ h < b)) → bt (R f) h = true → bt (R h) g = true → bt (S f) g = true
      refine lp_up (fun a (S : Nat → Int32) => G56 (nI r) (nI a) (wA M 17 S)) (fun a S => J a 0 S) 6 ?_ ?_ 0 R (by omega) ⟨hR.1, fun _ _ _ _ q => q, fun f h g _ _ _ q => by omega⟩
      · intro S hS
        refine h56 _ _ _ ⟨fun _ y e => ?_, fun c => absurd (Int32.le_refl 6) c⟩
        rw [e, nI_1]
        refine ih S ⟨hS.1, ?_⟩
        intro n f g hn hh
        have pf := ho.2.2.2.2.2.2.1 f g ((htr f g).mpr ⟨n, hh⟩)
        cases n with
        | zero => exact hS.2.1 f g (by omega) (by omega) (hR.2 0 f g (by omega) hh)
        | succ n =>
          rcases Nat.lt_or_ge (n+1) (r+1) with z | z
          · exact hS.2.1 f g (by omega) (by omega) (hR.2 (n+1) f g z hh)
          · obtain ⟨k, hk1, hk2⟩ := hh
            have pk := htb f k hk1
            exact hS.2.2 f k g (by omega) (by omega) (by omega) (Or.inl (by omega)) (hR.2 0 f k (by omega) hk1) (hR.2 n k g (by omega) hk2)
      · intro a S ha hS iha
        refine h56 _ _ _ ⟨fun c => absurd c (by show ¬ nI 6 ≤ nI a; rw [q_le (by omega) (by omega)]; omega), fun _ => ?_⟩
        refine lp_up (fun b (S : Nat → Int32) => G64 (nI r) (nI a) (nI b) (wA M 17 S)) (fun b S => J a b S) 6 ?_ ?_ 0 S (by omega) hS
        · intro S hS
          refine h64 _ _ _ _ ⟨fun _ y e => ?_, fun c => absurd (Int32.le_refl 6) c⟩
          rw [e, nI_1]
          exact iha S ⟨hS.1, hS.2.1, fun f h g q1 q2 q3 q4 => hS.2.2 f h g q1 q2 q3 (by omega)⟩
        · intro b S hb hS ihb
          have step : ∀ z0, (∀ g, g < 32 → bt z0 g = true → suP τ a g = true) → (bt (R a) b = true → ∀ g, g < 32 → bt (R b) g = true → bt z0 g = true) → G101 (nI r) (nI a) (nI b) z0 (S a) (nI a) (wA M 17 S) := by
            intro z0 hz1 hz2
            refine h101 _ _ _ _ _ _ _ ⟨v_in ha (by omega), fun μ20 e20 y e => ?_⟩
            rw [e, nI_1]
            rw [q_cl (by omega), wI_wA] at e20
            rw [e20]
            refine ihb _ ⟨?_, ?_, ?_⟩
            · intro f hf g hg q
              rw [upd_at] at q
              by_cases z : f = a
              · rw [if_pos z, b_or, Bool.or_eq_true] at q
                rw [z]
                rcases q with q | q
                · exact hS.1 a ha g hg q
                · exact hz1 g hg q
              · rw [if_neg z] at q
                exact hS.1 f hf g hg q
            · intro f g hf hg q
              rw [upd_at]
              by_cases z : f = a
              · rw [if_pos z, b_or, Bool.or_eq_true]
                exact Or.inl (by rw [← z]; exact hS.2.1 f g hf hg q)
              · rw [if_neg z]
                exact hS.2.1 f g hf hg q
            · intro f h g hf hh hg q1 q2 q3
              rw [upd_at]
              by_cases z : f = a
              · rw [if_pos z, b_or, Bool.or_eq_true]
                by_cases zh : h = b
                · exact Or.inr (hz2 (by rw [← z, ← zh]; exact q2) g hg (by rw [← zh]; exact q3))
                · exact Or.inl (by rw [← z]; exact hS.2.2 f h g hf hh hg (by omega) q2 q3)
              · rw [if_neg z]
                exact hS.2.2 f h g hf hh hg (by omega) q2 q3
          refine h64 _ _ _ _ ⟨fun c => absurd c (by show ¬ nI 6 ≤ nI b; rw [q_le (by omega) (by omega)]; omega), fun _ => ⟨v_in ha (by omega), v_in ha (by omega), ?_⟩⟩
          rw [q_cl (by omega), wA_eq, hb_iff _ (by omega), q_cl (by omega)]
          refine ⟨fun c => step 0 (fun g _ q => by rw [b_0] at q; cases q) (fun q => ?_), fun c => ⟨v_in hb (by omega), step _ (fun g hg q => ?_) (fun _ g hg q => hS.2.1 b g hb hg q)⟩⟩
          · exact absurd (hS.2.1 a b ha (by omega) q) c
          · exact ho.2.2.2.2.2.2.2.1 a b g (hS.1 a ha b (by omega) c) (hS.1 b hb g hg q))
    0
  have start := lp_up (fun t (R : Nat → Int32) => G2 (nI t) (wA M 17 R)) (fun t R => ∀ f, f < t → ∀ g, g < 32 → bt (R f) g = told f g) 6
    (fun R hR => by
      refine h2 _ _ ⟨fun _ => rounds R (by omega) ⟨fun f hf g hg q => ?_, fun n f g hn hh => ?_⟩, fun c => absurd (Int32.le_refl 6) c⟩
      · rw [hR f hf g hg] at q
        exact toldP f g q
      · have pf := ho.2.2.2.2.2.2.1 f g ((htr f g).mpr ⟨n, hh⟩)
        rw [show n = 0 by omega] at hh
        rw [hR f (by omega) g (by omega)]
        exact hh)
    (fun t R htt hR ih => by
      have step : ∀ z0, (∀ g, g < 32 → bt z0 g = told t g) → G39 (nI t) z0 (nI t) (wA M 17 R) := by
        intro z0 hz
        refine h39 _ _ _ _ ⟨v_in htt (by omega), fun μ9 e9 y e => ?_⟩
        rw [e, nI_1]
        rw [q_cl (by omega), wI_wA] at e9
        rw [e9]
        refine ih _ (fun f hf g hg => ?_)
        rw [upd_at]
        by_cases z : f = t
        · rw [if_pos z, z]; exact hz g hg
        · rw [if_neg z]; exact hR f (by omega) g hg
      have e34 : (wA M 17 R).1 1 (34 : Int32).toNatClampNeg = nI (suF τ) := by rw [wA_ne (by omega)]; exact hM.2.2.1
      refine h2 _ _ ⟨fun c => absurd c (by show ¬ nI 6 ≤ nI t; rw [q_le (by omega) (by omega)]; omega), fun _ => ⟨v_in (a := 34) (by decide) (by decide), ?_⟩⟩
      rw [e34, q_le (by omega) (by omega)]
      refine ⟨fun c => step 0 (fun g _ => ?_), fun c => ?_⟩
      · rw [b_0]
        cases hb : told t g with
        | false => rfl
        | true => have := (htb t g hb).1; omega
      · unfold f_X6_at
        rw [show (35 + 34 * nI t + 33 : Int32) = nI (35 + 34 * t + 33) from at_eq t 33]
        dsimp only
        rw [q_cl (by omega), wA_ne (by omega)]
        refine ⟨v_in (by omega) (by omega), step _ (fun g hg => ?_)⟩
        have := ht t (by omega) g hg
        rwa [Nat.zero_add] at this)
    0 (M.1 17) (by omega) (fun f hf => by omega)
  rw [wA_self] at start
  exact start
theorem s_isAhead {τ : SU} (ho : okS τ) {M : Mem} (h : BH τ M) {f g : Nat} (hf : f < 6) (hg : g < 6) {K : Int32 → Mem → Prop} (hK : K (if suP τ f g then 1 else 0) M) : f_X6_isAhead (nI f) (nI g) M K := by
  refine ⟨v_in hf (by omega), ?_⟩
  rw [q_cl (by omega), hb_iff _ (by omega), h f hf g (by omega)]
  cases hb : suP τ f g with
  | true => rw [hb] at hK; exact ⟨fun c => absurd rfl c, fun _ => hK⟩
  | false => rw [hb] at hK; exact ⟨fun _ => hK, fun c => by cases c⟩
theorem p_isBefore : LS_isBefore RR := by
  intro X M a1 a2 h
  obtain ⟨τ, h1, h2, h3, h4⟩ := id h
  have h6 := h1.1.2.2.1
  have f1 : suF τ < 2147483648 := by omega
  refine s_hasFeature f1 h1.2.1.2.2.1 (fun q1 => t1 ?_) (fun q1 => t0 ?_)
  · refine s_hasFeature f1 h1.2.1.2.2.1 (fun q2 => u1 ?_) (fun q2 => u0 ?_)
    · obtain ⟨f, hf, rfl⟩ := id q1
      obtain ⟨g, hg, rfl⟩ := id q2
      refine s_stands h1.1 h1.2.1 hf hg ?_
      have fin : ∀ b : Bool, b = suP τ f g → f_X6_isBefore (nI f) (nI g) M (fun r2 M1 => (if b then (1 : Int32) else 0) = r2 ∧ RR X M1) := by
        intro b hb
        refine s_isFeature f1 h1.2.2.2.2.1 (fun _ => t1 ?_) (fun c => absurd q1 c)
        refine s_isFeature f1 h1.2.2.2.2.1 (fun _ => u1 ?_) (fun c => absurd q2 c)
        refine s_findBehind h1.1 h1.2.2 (fun M' e' bh => ?_)
        have sm : sM M M' := ⟨fun p a b => e' p (by omega), by rw [e' 0 (by omega)], by rw [e' 0 (by omega)]⟩
        refine s_isAhead h1.1 bh (by omega) (by omega) ?_
        rw [← hb]
        cases b with
        | true => exact t1 ⟨rfl, h.fr (sX.rf X) sm⟩
        | false => exact t0 ⟨rfl, h.fr (sX.rf X) sm⟩
      cases hw : suP τ f g with
      | true => exact t1 (fin true hw.symm)
      | false => exact t0 (fin false hw.symm)
    · refine s_isFeature f1 h1.2.2.2.2.1 (fun _ => t1 ?_) (fun c => absurd q1 c)
      exact s_isFeature f1 h1.2.2.2.2.1 (fun c => absurd c q2) (fun _ => u0 ⟨rfl, h⟩)
  · exact s_isFeature f1 h1.2.2.2.2.1 (fun c => absurd c q1) (fun _ => t0 ⟨rfl, h⟩)
