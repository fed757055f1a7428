theorem bz_iff {x : Int32} : x = 0 ↔ ∀ i, i < 32 → bt x i = false := ⟨fun e i _ => by rw [e, b_0], fun h => b_ext (fun i hi => by rw [h i hi, b_0])⟩
/-- the class's mask for a set -/
def msk (S : Nat → Bool) (x : Int32) : Prop := (∀ i, i < 32 → bt x i = S i) ∧ ∀ i, S i = true → i < 6
theorem msk_rm {S : Nat → Bool} {x : Int32} (h : msk S x) {f : Nat} (hf : f < 6) : msk (rmF S f) (x &&& ((1 <<< (nI f &&& 31)) ^^^ (-1))) := by
  refine ⟨fun i hi => ?_, fun i q => ?_⟩
  · rw [bt_off (by omega) hi, h.1 i hi]
    unfold rmF
    by_cases z : i = f <;> simp [z]
  · unfold rmF at q
    rw [Bool.and_eq_true] at q
    exact h.2 i q.1
theorem msk_0 {S : Nat → Bool} {x : Int32} (h : msk S x) : x = 0 ↔ uL S = [] := by
  rw [bz_iff]
  constructor
  · intro hz
    cases hu : uL S with
    | nil => rfl
    | cons a t =>
      have ha : a ∈ uL S := by rw [hu]; simp
      have := mem_uL.mp ha
      have := hz a (by omega)
      rw [h.1 a (by omega)] at this
      have h2 := (mem_uL.mp ha).2
      rw [this] at h2
      cases h2
  · intro hu i hi
    cases hs : bt x i with
    | false => rfl
    | true =>
      rw [h.1 i hi] at hs
      have : i ∈ uL S := mem_uL.mpr ⟨h.2 i hs, hs⟩
      rw [hu] at this
      cases this
theorem s_lowest {τ : SU} (ho : okS τ) {X : Mem} (hE : ∀ g, g < 6 → ∀ f, f < 32 → bt (X.1 10 g) f = suP τ f g) {S : Nat → Bool} {x : Int32} (hS : msk S x) (hne : uL S ≠ []) {K : Int32 → Mem → Prop} (hK : K (nI (lowR (suP τ) S)) X) : f_X5_lowestReady x X K := by
  intro G2 G32 h2 h32
  obtain ⟨l6, lm, ll⟩ := low_ok ho.2.2.2.2.2.2.2.1 ho.2.2.2.2.2.2.2.2 hne
  generalize lowR (suP τ) S = f0 at l6 lm ll hK
  have cond : ∀ f, f < 6 → S f = true → ((X.1 10 f &&& x = 0) ↔ mnl (suP τ) S f = true) := by
    intro f hf hs
    rw [bz_iff, mnl_iff]
    constructor
    · intro h
      refine ⟨hs, fun g hg hsg => ?_⟩
      have := h g (by omega)
      rw [b_and, hE f hf g (by omega), hS.1 g (by omega), hsg, Bool.and_true] at this
      exact this
    · rintro ⟨_, h⟩ i hi
      rw [b_and, hE f hf i hi, hS.1 i hi]
      cases hsi : S i with
      | false => simp
      | true => rw [h i (hS.2 i hsi) hsi]; rfl
  have : ∀ r t, t + r = f0 → G2 x (nI t) X := by
    intro r
    induction r with
    | zero =>
      intro t ht
      have e : t = f0 := by omega
      subst e
      have hs := (mnl_iff.mp lm).1
      refine h2 _ _ _ ⟨fun c => absurd c (by show ¬ nI 6 ≤ nI t; rw [q_le (by omega) (by omega)]; omega), fun _ => s_hasBit (by omega) ?_⟩
      rw [hS.1 t (by omega), hs]
      refine t1 ⟨v_in l6 (by omega), ?_⟩
      rw [q_cl (by omega)]
      exact ⟨fun c => absurd ((cond t l6 hs).mpr lm) c, fun _ => hK⟩
    | succ r ih =>
      intro t ht
      have step : G32 x (nI t) X := h32 _ _ _ (fun y e => by rw [e, nI_1]; exact ih (t+1) (by omega))
      refine h2 _ _ _ ⟨fun c => absurd c (by show ¬ nI 6 ≤ nI t; rw [q_le (by omega) (by omega)]; omega), fun _ => s_hasBit (by omega) ?_⟩
      rw [hS.1 t (by omega)]
      cases hs : S t with
      | false => exact t0 step
      | true =>
        refine t1 ⟨v_in (by omega) (by omega), ?_⟩
        rw [q_cl (by omega)]
        refine ⟨fun _ => step, fun c => ?_⟩
        have := (cond t (by omega) hs).mp c
        rw [ll t (by omega)] at this
        cases this
  exact this f0 0 (by omega)
theorem on_msk {τ : SU} (ho : okS τ) {X : Mem} (hX : RXS X 1 τ) : msk (suO τ) (X.1 1 3) := by
  refine ⟨hX.2.2.2.1, fun i q => ?_⟩
  have h6 : suF τ ≤ 6 := ho.2.2.1
  rcases Nat.lt_or_ge i (suF τ) with z | z
  · omega
  · rw [ho.2.2.2.2.2.1 i z] at q; cases q
theorem s_frX {τ : SU} (ho : okS τ) {X : Mem} (hX : RXS X 1 τ) {K : Int32 → Mem → Prop} (hK : ∀ X', (∀ p, p ≠ 39 → X'.1 p = X.1 p) → (∀ i x, (roL τ)[i]? = some x → X'.1 39 i = nI x) → K (nI (roL τ).length) X') : f_X5_findResolvedOrder X K := by
  intro G12 h12 y1 e1
  have l6 := onL_le τ
  have rl := roL_len τ
  have go : ∀ (n t : Nat) (S : Nat → Bool) (x : Int32) (A : List Nat) (X' : Mem), msk S x → (uL S).length = n → t + n = (onL τ).length → A.length = t → A ++ grL (suP τ) n S = roL τ → (∀ p, p ≠ 39 → X'.1 p = X.1 p) → (∀ i y, A[i]? = some y → X'.1 39 i = nI y) → G12 x (nI t) (nI t) X' := by
    intro n
    induction n with
    | zero =>
      intro t S x A X' hS hn ht hA he f1 f2
      have e0 : uL S = [] := List.eq_nil_of_length_eq_zero hn
      have fin : K (nI t) X' := by
        have : (roL τ).length = t := by omega
        rw [← this]
        refine hK X' f1 ?_
        rw [← he]
        show ∀ i x, (A ++ [])[i]? = some x → _
        rw [List.append_nil]
        exact f2
      refine h12 _ _ _ _ ⟨fun _ => fin, fun _ => ⟨fun _ => fin, fun c => absurd ((msk_0 hS).mpr e0) c⟩⟩
    | succ n ih =>
      intro t S x A X' hS hn ht hA he f1 f2
      have hne : uL S ≠ [] := fun e => by rw [e] at hn; cases hn
      obtain ⟨l6', lm, ll⟩ := low_ok ho.2.2.2.2.2.2.2.1 ho.2.2.2.2.2.2.2.2 hne
      refine h12 _ _ _ _ ⟨fun c => absurd c (by show ¬ nI 6 ≤ nI t; rw [q_le (by omega) (by omega)]; omega), fun _ => ⟨fun c => absurd ((msk_0 hS).mp c) hne, fun _ => ?_⟩⟩
      refine s_lowest ho (by rw [f1 10 (by omega)]; exact hX.2.2.2.2.2.2) hS hne ⟨v_in (by omega) (by omega), fun μ7 e7 y8 e8 y9 e9 y10 e10 => ?_⟩
      rw [q_cl (by omega)] at e7
      rw [e9, e10, nI_1, e8, e7]
      obtain ⟨R, s1, s2⟩ := u_split l6' (mnl_iff.mp lm).1
      refine ih (t+1) (rmF S (lowR (suP τ) S)) _ (A ++ [lowR (suP τ) S]) _ (msk_rm hS l6') ?_ (by omega) (by simp; exact hA) ?_ (fun p hp => by rw [wI_row hp]; exact f1 p hp) ?_
      · rw [s1] at hn
        rw [s2]
        simp at hn ⊢
        omega
      · rw [← he]
        show _ = A ++ (lowR (suP τ) S :: grL (suP τ) n (rmF S (lowR (suP τ) S)))
        simp
      · intro j y hj
        rw [wI_at]
        rcases Nat.lt_or_ge j A.length with w | w
        · rw [List.getElem?_append_left w] at hj
          rw [if_neg (by omega)]
          exact f2 j y hj
        · rw [List.getElem?_append_right w] at hj
          have : j = A.length := by
            rcases Nat.lt_or_ge (j - A.length) 1 with v | v
            · omega
            · rw [List.getElem?_eq_none (by simpa using v)] at hj; cases hj
          subst this
          rw [Nat.sub_self] at hj
          rw [if_pos ⟨rfl, hA⟩]
          have : lowR (suP τ) S = y := Option.some.inj hj
          rw [this]
  rw [e1]
  exact go (onL τ).length 0 (suO τ) _ [] X (on_msk ho hX) rfl (by omega) rfl rfl (fun _ _ => rfl) (fun i y h => by cases h)
theorem p_resolved : LS_resolved RR := by
  intro X M a1 h
  obtain ⟨τ, h1, h2, h3, h4⟩ := id h
  have l6 := onL_le τ
  have rl := roL_len τ
  refine ⟨fun c => ?_, fun c => ⟨fun d => absurd d c, fun _ => ⟨rfl, h⟩⟩⟩
  have nc : ¬ a1 < 0 := fun z => by
    rw [Int32.lt_iff_toInt_lt] at z
    rw [Int32.le_iff_toInt_le] at c
    have : (0 : Int32).toInt = 0 := rfl
    omega
  obtain ⟨j, hj, rfl⟩ := nI_of nc
  refine s_frX h1.1 h1.2.1 (fun X' eX hx => ?_)
  have sx : sX X X' := ⟨fun p hp => eX p (by omega), by rw [eX 33 (by omega)]⟩
  rw [q_le (by omega) (by omega)]
  refine ⟨fun z => ⟨fun _ => ?_, fun d => absurd c d⟩, fun z => ⟨v_in (by omega) (by omega), ⟨fun _ => ?_, fun d => absurd c d⟩⟩⟩
  · refine s_frM h1.1 h1.2.2 (fun M' sm th bh hm => ?_)
    rw [q_le (by omega) (by omega)]
    exact ⟨fun _ => ⟨rfl, h.fr sx sm⟩, fun d => absurd z d⟩
  · refine s_frM h1.1 h1.2.2 (fun M' sm th bh hm => ?_)
    rw [q_le (by omega) (by omega)]
    refine ⟨fun d => absurd d z, fun _ => ⟨v_in (by omega) (by omega), ?_, h.fr sx sm⟩⟩
    have hg : (roL τ)[j]? = some ((roL τ)[j]'(by omega)) := List.getElem?_eq_getElem _
    rw [q_cl (by omega), hx j _ hg, hm j _ hg]
