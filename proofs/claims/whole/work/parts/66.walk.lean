/-! the class walks the orders, but for those that a swap makes again -/
def rpt (P rv : Nat → Nat → Bool) : Option Nat → Nat → Bool
  | none, _ => false
  | some a, f => decide (f < a) && (!rv a f && !P a f)
def wlk (P rv : Nat → Nat → Bool) : (Nat → Bool) → Option Nat → List Nat → Prop
  | S, _, [] => uL S = []
  | S, last, f :: r => f < 6 ∧ mnl P S f = true ∧ rpt P rv last f = false ∧ wlk P rv (rmF S f) (some f) r
def lastI : Option Nat → Int32
  | none => -1
  | some a => nI a
section Walk
variable {τ : SU} {P rv : Nat → Nat → Bool} {μb : Mem}
theorem s_isRepeat (hF : suF τ ≤ 6) (h65 : ∀ f, f < 6 → ∀ g, g < 32 → bt (μb.1 65 f) g = P g f) (h66 : ∀ a, a < suF τ → ∀ b, b < suF τ → bt (μb.1 66 a) b = rv a b) {μ : Mem} (w : ∀ q, q < 49 ∨ 65 ≤ q → μ.1 q = μb.1 q) {last : Option Nat} (hl : ∀ a, last = some a → a < suF τ) {f : Nat} (hf : f < suF τ) {K : Int32 → Mem → Prop} (hK : K (if rpt P rv last f then 1 else 0) μ) : f_X1_isRepeat (lastI last) (nI f) μ K := by
  cases last with
  | none =>
    refine ⟨fun _ => hK, fun c => absurd ?_ c⟩
    show (-1 : Int32) ≤ nI f
    rw [Int32.le_iff_toInt_le, nI_toInt (by omega)]
    have : (-1 : Int32).toInt = -1 := rfl
    omega
  | some a =>
    have ha := hl a rfl
    show (nI a ≤ nI f → _) ∧ (¬ nI a ≤ nI f → _)
    have hK : K (if (decide (f < a) && (!rv a f && !P a f)) then 1 else 0) μ := hK
    rw [q_le (by omega) (by omega)]
    refine ⟨fun c => by rw [decide_eq_false (by omega)] at hK; exact hK, fun c => ?_⟩
    rw [decide_eq_true (by omega), Bool.true_and] at hK
    refine ⟨v_in (by omega) (by omega), ?_⟩
    show f_X5_hasBit (μ.1 66 (nI a).toNatClampNeg) (nI f) μ _
    rw [q_cl (by omega)]
    refine s_hasBit (by omega) ?_
    rw [w 66 (by omega), h66 a ha f hf]
    cases hr : rv a f with
    | true => rw [hr] at hK; exact u1 hK
    | false =>
      rw [hr] at hK
      refine u0 ⟨v_in (by omega) (by omega), ?_⟩
      show f_X5_hasBit (μ.1 65 (nI f).toNatClampNeg) (nI a) μ _
      rw [q_cl (by omega)]
      refine s_hasBit (by omega) ?_
      rw [w 65 (by omega), h65 f (by omega) a (by omega)]
      cases hp : P a f with
      | true => rw [hp] at hK; exact u1 hK
      | false => rw [hp] at hK; exact u0 hK
theorem s_walk (ho : okS τ) (hX : RXS μb 1 τ) (h65 : ∀ f, f < 6 → ∀ g, g < 32 → bt (μb.1 65 f) g = P g f) (h66 : ∀ a, a < suF τ → ∀ b, b < suF τ → bt (μb.1 66 a) b = rv a b) {lim : Nat} : ∀ (d depth : Nat) (S : Nat → Bool) (x : Int32) (last : Option Nat) (Ks : List (Nat → Int32)) (A : Nat → Int32) (μ : Mem) (K : Mem → Prop), msk S x → (∀ f, S f = true → f < suF τ) → depth + (uL S).length ≤ 6 → (uL S).length < d → (∀ a, last = some a → a < suF τ) → (∀ q, q < 49 ∨ 65 ≤ q → μ.1 q = μb.1 q) → KP (suN τ) (suK τ) lim Ks μ → Ks.Pairwise (fun a b => ¬ alk (suK τ) b a) → isRow μ (58+depth) A → rowA (suN τ) A → (∀ N μ', (∀ q, q < 49 ∨ 65 ≤ q → μ'.1 q = μb.1 q) → KP (suN τ) (suK τ) lim (Ks ++ N) μ' → (Ks ++ N).Pairwise (fun a b => ¬ alk (suK τ) b a) → (∀ B ∈ N, ∃ l, wlk P rv S last l ∧ B = mO τ l A) → (lim ≤ (Ks ++ N).length ∨ ∀ l, wlk P rv S last l → ∃ B ∈ Ks ++ N, alk (suK τ) (mO τ l A) B) → (∀ q, 58 ≤ q → q ≤ 58 + depth → μ'.1 q = μ.1 q) → K μ') → f_X1_walkOrders d 1 (nI depth) x (lastI last) μ K
  | 0, depth, S, x, last, Ks, A, μ, K, _, _, _, hd, _, _, _, _, _, _, _ => by omega
  | d + 1, depth, S, x, last, Ks, A, μ, K, hS, hSF, hdep, hd, hlast, w, hP, hpw, hrow, hA, hK => by
    have h6 : suF τ ≤ 6 := ho.2.2.1
    have hn := ho.1.2
    have hk := ho.2.1.2
    unfold f_X1_walkOrders
    intro G10 G39 G84 G85 G145 h10 h39 h84 h85 h145
    refine ⟨fun z => ?_, fun z => ⟨fun _ => ?_, fun y => ?_⟩⟩
    · -- a whole order
      have e0 := (msk_0 hS).mp z
      have only : ∀ l, wlk P rv S last l → l = [] := by
        intro l hl
        cases l with
        | nil => rfl
        | cons f r =>
          have : f ∈ uL S := mem_uL.mpr ⟨hl.1, (mnl_iff.mp hl.2.1).1⟩
          rw [e0] at this
          cases this
      refine h10 _ _ ⟨v_in (by omega) (by omega), ?_⟩
      rw [q_cl (by omega), w 1 (by omega), hX.1, hX.2.1]
      refine s_take ho.1.1 hn hk (by omega) hA hrow (fun μ1 hF f1 f2 => ?_)
      refine s_keepForm ho.1.1 hn hk (hP.fr (f1 49 (by omega)) (f2 56 (by omega))) hA hF (fun Ks' μ2 hP2 hcase f3 => ?_)
      have wf : ∀ q, q < 49 ∨ 65 ≤ q → μ2.1 q = μb.1 q := fun q hq => by rw [f3 q (by omega), f1 q (by omega), w q hq]
      have st : ∀ q, 58 ≤ q → q ≤ 58 + depth → μ2.1 q = μ.1 q := fun q a b => by rw [f3 q (by omega), f1 q (by omega)]
      rcases hcase with ⟨e, hc⟩ | ⟨e, hc⟩
      · refine hK [] μ2 wf (by rw [List.append_nil, ← e]; exact hP2) (by rw [List.append_nil]; exact hpw) (fun B hB => by cases hB) ?_ st
        rw [List.append_nil]
        rcases hc with hc | ⟨B, hB, ha⟩
        · exact Or.inl hc
        · exact Or.inr (fun l hl => ⟨B, hB, by rw [only l hl]; exact ha⟩)
      · refine hK [A] μ2 wf (by rw [← e]; exact hP2) ?_ (fun B hB => ⟨[], e0, by rw [List.mem_singleton.mp hB]; rfl⟩) (Or.inr (fun l hl => ⟨A, by simp, by rw [only l hl]; exact alk_rf _ _⟩)) st
        refine List.pairwise_append.mpr ⟨hpw, List.pairwise_singleton _ _, ?_⟩
        intro a ha b hb
        rw [List.mem_singleton.mp hb]
        exact hc a ha
    · -- one after another
      have hne : uL S ≠ [] := fun e => z ((msk_0 hS).mpr e)
      have hlen : 0 < (uL S).length := List.length_pos_iff.mpr hne
      have cond : ∀ f, f < 6 → S f = true → ∀ {μ' : Mem}, (∀ q, q < 49 ∨ 65 ≤ q → μ'.1 q = μb.1 q) → ((μ'.1 65 f &&& x = 0) ↔ mnl P S f = true) := by
        intro f hf hs μ' w'
        rw [w' 65 (by omega), bz_iff, mnl_iff]
        constructor
        · intro h
          refine ⟨hs, fun g hg hsg => ?_⟩
          have := h g (by omega)
          rw [b_and, h65 f hf g (by omega), hS.1 g (by omega), hsg, Bool.and_true] at this
          exact this
        · rintro ⟨_, h⟩ i hi
          rw [b_and, h65 f hf i hi, hS.1 i hi]
          cases hsi : S i with
          | false => simp
          | true => rw [h i (hS.2 i hsi) hsi]; rfl
      refine lp_up (fun f (s : List (Nat → Int32) × Mem) => G39 (nI depth) x (lastI last) (nI f) s.2) (fun f s => (∀ q, q < 49 ∨ 65 ≤ q → s.2.1 q = μb.1 q) ∧ KP (suN τ) (suK τ) lim (Ks ++ s.1) s.2 ∧ (Ks ++ s.1).Pairwise (fun a b => ¬ alk (suK τ) b a) ∧ (∀ B ∈ s.1, ∃ l, wlk P rv S last l ∧ B = mO τ l A) ∧ (lim ≤ (Ks ++ s.1).length ∨ ∀ f' r, f' < f → wlk P rv S last (f' :: r) → ∃ B ∈ Ks ++ s.1, alk (suK τ) (mO τ (f' :: r) A) B) ∧ (∀ q, 58 ≤ q → q ≤ 58 + depth → s.2.1 q = μ.1 q)) (suF τ) ?_ ?_ 0 ([], μ) (by omega) ⟨w, by rw [List.append_nil]; exact hP, by rw [List.append_nil]; exact hpw, fun B hB => (by cases hB), Or.inr (fun f' r hf' => by omega), fun _ _ _ => rfl⟩
      · intro s hs
        obtain ⟨a1, a2, a3, a4, a5, a6⟩ := hs
        refine h39 _ _ _ _ _ ⟨fun _ => hK s.1 s.2 a1 a2 a3 a4 ?_ a6, fun c => absurd (by rw [a1 1 (by omega), hX.2.2.1]; exact Int32.le_refl _) c⟩
        rcases a5 with a5 | a5
        · exact Or.inl a5
        · refine Or.inr (fun l hl => ?_)
          cases l with
          | nil => exact absurd hl hne
          | cons f r => exact a5 f r (hSF f (mnl_iff.mp hl.2.1).1) hl
      · intro f s hf hs ih
        obtain ⟨N, μ'⟩ := s
        obtain ⟨a1, a2, a3, a4, a5, a6⟩ := hs
        have a1 : ∀ q, q < 49 ∨ 65 ≤ q → μ'.1 q = μb.1 q := a1
        have a2 : KP (suN τ) (suK τ) lim (Ks ++ N) μ' := a2
        have a6 : ∀ q, 58 ≤ q → q ≤ 58 + depth → μ'.1 q = μ.1 q := a6
        have skip : (∀ r, ¬ wlk P rv S last (f :: r)) → G145 (nI depth) x (lastI last) (nI f) μ' := by
          intro hno
          refine h145 _ _ _ _ _ (fun y e => ?_)
          rw [e, nI_1]
          refine ih (N, μ') ⟨a1, a2, a3, a4, ?_, a6⟩
          rcases a5 with a5 | a5
          · exact Or.inl a5
          · refine Or.inr (fun f' r hf' hw => ?_)
            rcases Nat.lt_or_ge f' f with q | q
            · exact a5 f' r q hw
            · rw [show f' = f by omega] at hw
              exact absurd hw (hno r)
        refine h39 _ _ _ _ _ ⟨fun c => absurd c (by show ¬ μ'.1 1 2 ≤ _; rw [a1 1 (by omega), hX.2.2.1, q_le (by omega) (by omega)]; omega), fun _ => ⟨fun c => ?_, fun c => ?_⟩⟩
        · have c : μ'.1 49 3 ≤ μ'.1 49 2 := c
          have b3 := a2.2.2.1
          have b4 := a2.2.2.2.1
          rw [a2.2.1, a2.1, q_le (by omega) (by omega)] at c
          exact hK N μ' a1 a2 a3 a4 (Or.inl c) a6
        · refine s_hasBit (by omega) ?_
          rw [hS.1 f (by omega)]
          cases hs : S f with
          | false =>
            refine t0 (h84 _ _ _ _ _ (h85 _ _ _ _ _ _ ⟨fun _ => skip (fun r hw => ?_), fun q => absurd rfl q⟩))
            have := (mnl_iff.mp hw.2.1).1
            rw [hs] at this
            cases this
          | true =>
            refine t1 ⟨v_in (by omega) (by omega), ?_⟩
            show (¬ μ'.1 65 (nI f).toNatClampNeg &&& x = 0 → _) ∧ (μ'.1 65 (nI f).toNatClampNeg &&& x = 0 → _)
            rw [q_cl (by omega), cond f (by omega) hs a1]
            refine ⟨fun q => h84 _ _ _ _ _ (h85 _ _ _ _ _ _ ⟨fun _ => skip (fun r hw => q hw.2.1), fun q => absurd rfl q⟩), fun hm => h85 _ _ _ _ _ _ ⟨fun q => absurd q (by decide), fun _ => ?_⟩⟩
            refine s_isRepeat h6 h65 h66 a1 hlast hf ?_
            cases hr : rpt P rv last f with
            | true => exact u1 (skip (fun r hw => by have := hw.2.2.1; rw [hr] at this; cases this))
            | false =>
              have e1 : (nI depth + 1 : Int32) = nI (depth+1) := nI_1 depth
              refine u0 ⟨v_in (by omega) (by omega), v_in (by omega) (by omega), ?_⟩
              rw [e1]
              refine ⟨v_in (by omega) (by omega), ?_⟩
              rw [q_cl (show depth < 2147483648 by omega), q_cl (show f < 2147483648 by omega), q_cl (show depth + 1 < 2147483648 by omega)]
              refine s_putOn (58+depth) (1+3+f) (58+(depth+1)) μ' _ (by omega) ?_
              have hrow' : isRow (wA μ' (58+(depth+1)) (fun c => if c < 32 then (if μ'.1 (1+3+f) c = -2 then μ'.1 (58+depth) c else μ'.1 (1+3+f) c) else μ'.1 (58+(depth+1)) c)) (58+(depth+1)) (mP τ f A) := by
                intro c hc
                rw [wA_eq]
                show (if c < 32 then _ else _) = _
                rw [if_pos hc, a1 (1+3+f) (by omega), a6 (58+depth) (by omega) (by omega), hrow c hc]
                have := hX.2.2.2.2.2.1 f hf c hc
                rw [this]
                rfl
              obtain ⟨R, s1, s2⟩ := u_split (S := S) (show f < 6 by omega) hs
              have hl' : (uL (rmF S f)).length + 1 = (uL S).length := by rw [s1, s2]; simp; omega
              refine s_walk ho hX h65 h66 d (depth+1) (rmF S f) _ (some f) (Ks ++ N) (mP τ f A) _ _ (msk_rm hS (by omega)) (fun g hg => ?_) (by omega) (by omega) (fun a ha => by rw [← Option.some.inj ha]; exact hf) (fun q hq => by rw [wA_ne (by omega)]; exact a1 q hq) (a2.fr (wA_ne (by omega)) rfl) a3 hrow' (rowA_mP ho hf hA) (fun N' μ2 b1 b2 b3 b4 b5 b6 => ?_)
              · unfold rmF at hg
                rw [Bool.and_eq_true] at hg
                exact hSF g hg.1
              · refine h145 _ _ _ _ _ (fun y e => ?_)
                rw [e, nI_1]
                rw [List.append_assoc] at b2 b3 b5
                refine ih (N ++ N', μ2) ⟨b1, b2, b3, ?_, ?_, ?_⟩
                · intro B hB
                  rcases List.mem_append.mp hB with q | q
                  · exact a4 B q
                  · obtain ⟨l, hl, eB⟩ := b4 B q
                    exact ⟨f :: l, ⟨by omega, hm, hr, hl⟩, eB⟩
                · rcases b5 with b5 | b5
                  · exact Or.inl b5
                  · rcases a5 with a5 | a5
                    · refine Or.inl (Nat.le_trans a5 ?_)
                      show (Ks ++ N).length ≤ (Ks ++ (N ++ N')).length
                      simp
                    · refine Or.inr (fun f' r hf' hw => ?_)
                      rcases Nat.lt_or_ge f' f with q | q
                      · obtain ⟨B, hB, ha⟩ := a5 f' r q hw
                        refine ⟨B, ?_, ha⟩
                        show B ∈ Ks ++ (N ++ N')
                        rw [← List.append_assoc]
                        exact List.mem_append_left _ hB
                      · rw [show f' = f by omega] at hw ⊢
                        exact b5 r hw.2.2.2
                · intro q u v
                  show μ2.1 q = μ.1 q
                  rw [b6 q u (by omega), wA_ne (by omega)]
                  exact a6 q u v
    · have hne : uL S ≠ [] := fun e => z ((msk_0 hS).mpr e)
      have hlen : 0 < (uL S).length := List.length_pos_iff.mpr hne
      exact absurd (by show nI depth < nI 6; rw [q_lt (by omega) (by omega)]; omega) y
end Walk
