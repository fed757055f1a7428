/-! sums -/
def sumN (g : Nat → Nat) : Nat → Nat
  | 0 => 0
  | k + 1 => sumN g k + g k
theorem sum_cg {g g' : Nat → Nat} : ∀ k, (∀ c, c < k → g c = g' c) → sumN g k = sumN g' k
  | 0, _ => rfl
  | k + 1, h => by
    unfold sumN
    rw [sum_cg k (fun c hc => h c (by omega)), h k (by omega)]
theorem sum_add (g g' : Nat → Nat) : ∀ k, sumN (fun c => g c + g' c) k = sumN g k + sumN g' k
  | 0 => rfl
  | k + 1 => by
    unfold sumN
    rw [sum_add g g' k]
    omega
theorem sum_0 : ∀ k, sumN (fun _ => 0) k = 0
  | 0 => rfl
  | k + 1 => by unfold sumN; rw [sum_0 k]
theorem sum_swap (h : Nat → Nat → Nat) (b : Nat) : ∀ a, sumN (fun i => sumN (fun j => h i j) b) a = sumN (fun j => sumN (fun i => h i j) a) b
  | 0 => (sum_0 b).symm
  | a + 1 => by
    show sumN (fun i => sumN (fun j => h i j) b) a + sumN (fun j => h a j) b = sumN (fun j => sumN (fun i => h i j) a + h a j) b
    rw [sum_swap h b a, sum_add]
theorem cnt_sum (g : Nat → Bool) : ∀ k, cntB g k = sumN (fun c => if g c then 1 else 0) k
  | 0 => rfl
  | k + 1 => by unfold cntB sumN; rw [cnt_sum g k]
theorem cnt_ext {g : Nat → Bool} {a : Nat} (h : ∀ c, a ≤ c → g c = false) : ∀ b, a ≤ b → cntB g b = cntB g a
  | 0, hb => by rw [show a = 0 by omega]
  | b + 1, hb => by
    rcases Nat.lt_or_ge b a with z | z
    · rw [show b + 1 = a by omega]
    · rw [cntB_f (h b z), cnt_ext h b z]
theorem cnt_0 {g : Nat → Bool} : ∀ k, (∀ c, c < k → g c = false) → cntB g k = 0
  | 0, _ => rfl
  | k + 1, h => by rw [cntB_f (h k (by omega)), cnt_0 k (fun c hc => h c (by omega))]
theorem sX.xs {X X' : Mem} {τ : SU} (s : sX X X') (h : RXS X 1 τ) (hf : suF τ ≤ 6) : RXS X' 1 τ := h.fr hf (s.1 _ (by omega)) (s.1 _ (by omega)) (fun f q => s.1 _ (by omega)) (s.1 _ (by omega))
theorem sM.ms {M M' : Mem} {τ : SU} (s : sM M M') (h : RMS M 1 0 τ) : RMS M' 1 0 τ := h.fr (s.1 1 (by omega) (by omega))
theorem s_isOnM {τ : SU} {M : Mem} (h6 : suF τ ≤ 6) (h : RMS M 1 0 τ) {f : Nat} (hf : f < suF τ) {K : Int32 → Mem → Prop} (hK : K (if suO τ f then 1 else 0) M) : f_X6_isOn (nI f) M K := by
  unfold f_X6_isOn f_X6_at
  have e := h.2.2.2.2.1 f hf
  rw [show (35 + 34 * nI f + 0 : Int32) = nI (35 + 34 * f + 0) from at_eq f 0]
  dsimp only
  rw [q_cl (by omega)]
  rw [Nat.zero_add] at e
  refine ⟨v_in (by omega) (by omega), ?_⟩
  rw [Nat.add_zero, e]
  cases hb : suO τ f with
  | true => rw [hb] at hK; exact ⟨fun c => absurd rfl c, fun _ => hK⟩
  | false => rw [hb] at hK; exact ⟨fun _ => hK, fun c => absurd c (by decide)⟩
theorem s_isOnX {τ : SU} {X : Mem} (h6 : suF τ ≤ 6) (h : RXS X 1 τ) {f : Nat} (hf : f < suF τ) {K : Int32 → Mem → Prop} (hK : K (if suO τ f then 1 else 0) X) : f_X2_isOn 1 (nI f) X K := s_isOn (by omega) (h.2.2.2.1 f (by omega)) hK
/-- a word found is not empty, and short -/
theorem inn_len {df : Nd → Nat → Bool} {nx : Nd → Nat → Option Nd} {u : Nd} {w : List Nat} {L : Nat} : ∀ (j x : Nat) (Q : QL), w.length ≤ L → (∀ q ∈ Q, q.2.length ≤ L + 1) → (∀ wd, innQ df nx u w j x Q = .inl wd → 0 < wd.length ∧ wd.length ≤ L + 1) ∧ ∀ Q', innQ df nx u w j x Q = .inr Q' → ∀ q ∈ Q', q.2.length ≤ L + 1
  | 0, x, Q, hw, hQ => ⟨fun wd h => by (cases h), fun Q' h => by have : Q = Q' := Sum.inr.inj h; rw [← this]; exact hQ⟩
  | j + 1, x, Q, hw, hQ => by
    unfold innQ
    cases hd : df u x with
    | true =>
      refine ⟨fun wd h => ?_, fun Q' h => by cases h⟩
      have : w ++ [x] = wd := Sum.inl.inj h
      rw [← this]
      simp
      exact hw
    | false =>
      simp only [Bool.false_eq_true, if_false]
      cases hv : nx u x with
      | none => exact inn_len j (x+1) Q hw hQ
      | some v =>
        refine inn_len j (x+1) _ hw ?_
        intro q hq
        by_cases z : v ∈ Q.map (·.1)
        · rw [if_pos z] at hq; exact hQ q hq
        · rw [if_neg z] at hq
          rcases List.mem_append.mp hq with y | y
          · exact hQ q y
          · rw [List.mem_singleton.mp y]; simp; exact hw
theorem bfs_len {df : Nd → Nat → Bool} {nx : Nd → Nat → Option Nd} {k : Nat} : ∀ (m i : Nat) (Q : QL) (w : List Nat) (L : Nat), (∀ q ∈ Q, q.2.length ≤ L) → bfsQ df nx k m i Q = some (some w) → 0 < w.length ∧ w.length ≤ L + m
  | 0, i, Q, w, L, _, h => by cases h
  | m + 1, i, Q, w, L, hQ, h => by
    unfold bfsQ at h
    cases hq : Q[i]? with
    | none => rw [hq] at h; cases h
    | some uw =>
      obtain ⟨u, w'⟩ := uw
      rw [hq] at h
      dsimp only at h
      have hl := inn_len (df := df) (nx := nx) (u := u) (w := w') (L := L) k 0 Q (hQ _ (List.mem_of_getElem? hq)) (fun q hq => Nat.le_succ_of_le (hQ q hq))
      cases hh : innQ df nx u w' k 0 Q with
      | inl wd =>
        rw [hh] at h
        have : wd = w := Option.some.inj (Option.some.inj h)
        rw [← this]
        have := hl.1 wd hh
        omega
      | inr Q' =>
        rw [hh] at h
        have := bfs_len m (i+1) Q' w (L+1) (hl.2 Q' hh) h
        omega
theorem wit_len {τ : SU} (ho : okS τ) {f g : Nat} (hf : f < suF τ) (hg : g < suF τ) {w : List Nat} (h : wit τ f g = some w) : 0 < w.length ∧ w.length ≤ 65 := by
  have := wt_ok (k := suK τ) ho.1.1 ho.1.2 ho.2.1.2 (rowA_mP ho hg (rowA_mP ho hf (rowA_B ho))) (rowA_mP ho hf (rowA_mP ho hg (rowA_B ho)))
  unfold wit at h
  rw [h] at this
  have := bfs_len 65 0 _ w 0 (by simp) this
  omega
def clB (τ : SU) (i j : Nat) : Bool := decide (i < j) && (suO τ i && (suO τ j && (wit τ i j).isSome))
theorem s_clX {τ : SU} (ho : okS τ) {X : Mem} (hX : RXS X 1 τ) {K : Int32 → Mem → Prop} (hK : ∀ X', sX X X' → K (nI (sumN (fun i => cntB (clB τ i) (suF τ)) (suF τ))) X') : f_X5_clashes X K := by
  intro G4 G19 G64 h4 h19 h64
  have h6 : suF τ ≤ 6 := ho.2.2.1
  have key := lp_up (fun i (s : Int32 × Mem) => G4 s.1 (nI i) s.2) (fun i s => sX X s.2 ∧ s.1 = nI (sumN (fun i => cntB (clB τ i) (suF τ)) i)) (suF τ)
    (fun s hs => by
      have hX' := hs.1.xs hX h6
      refine h4 _ _ _ ⟨fun _ => by rw [hs.2]; exact hK s.2 hs.1, fun c => absurd (by rw [hX'.2.2.1]; exact Int32.le_refl _) c⟩)
    (fun i s hi hs ih => by
      have hX' := hs.1.xs hX h6
      refine h4 _ _ _ ⟨fun c => absurd c (by rw [hX'.2.2.1, q_le (by omega) (by omega)]; omega), fun _ y e => ?_⟩
      rw [e, nI_1]
      exact lp_up (fun j (s : Int32 × Mem) => G19 s.1 (nI i) (nI j) s.2) (fun j s => i < j ∧ sX X s.2 ∧ s.1 = nI (sumN (fun i => cntB (clB τ i) (suF τ)) i + cntB (clB τ i) j)) (suF τ)
        (fun s hs => by
          have hX' := hs.2.1.xs hX h6
          refine h19 _ _ _ _ ⟨fun _ y e => ?_, fun c => absurd (by rw [hX'.2.2.1]; exact Int32.le_refl _) c⟩
          rw [e, nI_1]
          exact ih s ⟨hs.2.1, hs.2.2⟩)
        (fun j s hj hs ihj => by
          obtain ⟨hij, sx, hs⟩ := hs
          have hX' := sx.xs hX h6
          have step : ∀ v X', sX X X' → v = nI (sumN (fun i => cntB (clB τ i) (suF τ)) i + cntB (clB τ i) (j+1)) → G64 v (nI i) (nI j) X' := fun v X' sx' hv => h64 _ _ _ _ (fun y e => by rw [e, nI_1]; exact ihj (v, X') ⟨by omega, sx', hv⟩)
          refine h19 _ _ _ _ ⟨fun c => absurd c (by rw [hX'.2.2.1, q_le (by omega) (by omega)]; omega), fun _ => ?_⟩
          refine s_isOnX h6 hX' (by omega) ?_
          cases h1 : suO τ i with
          | false => exact t0 (step _ _ sx (by rw [hs, cntB_f (by unfold clB; rw [h1]; simp)]))
          | true =>
            refine t1 ?_
            refine s_isOnX h6 hX' hj ?_
            cases h2 : suO τ j with
            | false => exact t0 (step _ _ sx (by rw [hs, cntB_f (by unfold clB; rw [h2]; simp)]))
            | true =>
              refine t1 ?_
              refine s_fwX ho hX' (by omega) hj (fun X' sx' wx => ?_)
              cases h3 : (wit τ i j).isSome with
              | false => exact t0 (step _ _ (sx.tr sx') (by rw [hs, cntB_f (by unfold clB; rw [h3]; simp)]))
              | true => exact t1 (fun y e => step _ _ (sx.tr sx') (by rw [e, hs, nI_1, cntB_t (by unfold clB; rw [h1, h2, h3]; simpa using hij), Nat.add_assoc])))
        (i+1) s (by omega) ⟨by omega, hs.1, by rw [hs.2, cnt_0 (i+1) (fun c hc => by unfold clB; simp; omega)]; rfl⟩)
    0 (0, X) (by omega) ⟨sX.rf X, rfl⟩
  exact key
theorem s_clM {τ : SU} (ho : okS τ) {M : Mem} (hM : RMS M 1 0 τ) {K : Int32 → Mem → Prop} (hK : ∀ M', sM M M' → K (nI (sumN (fun j => cntB (fun i => clB τ i j) j) (suF τ))) M') : f_X6_clashesNow M K := by
  intro G4 G17 G52 G53 h4 h17 h52 h53
  have h6 : suF τ ≤ 6 := ho.2.2.1
  have key := lp_up (fun j (s : Int32 × Mem) => G4 s.1 (nI j) s.2) (fun j s => sM M s.2 ∧ s.1 = nI (sumN (fun j => cntB (fun i => clB τ i j) j) j)) (suF τ)
    (fun s hs => by
      have hM' := hs.1.ms hM
      refine h4 _ _ _ ⟨v_in (a := 34) (by decide) (by decide), fun _ => by rw [hs.2]; exact hK s.2 hs.1, fun c => absurd (by show s.2.1 1 34 ≤ _; rw [hM'.2.2.1]; exact Int32.le_refl _) c⟩)
    (fun j s hj hs ih => by
      have hM' := hs.1.ms hM
      refine h4 _ _ _ ⟨v_in (a := 34) (by decide) (by decide), fun c => absurd c (by show ¬ s.2.1 1 34 ≤ _; rw [hM'.2.2.1, q_le (by omega) (by omega)]; omega), fun _ => ?_⟩
      exact lp_up (fun i (s : Int32 × Mem) => G17 s.1 (nI j) (nI i) s.2) (fun i s => sM M s.2 ∧ s.1 = nI (sumN (fun j => cntB (fun i => clB τ i j) j) j + cntB (fun i => clB τ i j) i)) j
        (fun s hs => by
          refine h17 _ _ _ _ ⟨fun _ y e => ?_, fun c => absurd (Int32.le_refl _) c⟩
          rw [e, nI_1]
          exact ih s ⟨hs.1, hs.2⟩)
        (fun i s hi hs ihj => by
          obtain ⟨sm, hs⟩ := hs
          have hM' := sm.ms hM
          have step : ∀ z v M', sM M M' → v + z = nI (sumN (fun j => cntB (fun i => clB τ i j) j) j + cntB (fun i => clB τ i j) (i+1)) → G53 (nI j) (nI i) z v M' := fun z v M' sm' hv => h53 _ _ _ _ _ (fun y e y2 e2 => by rw [e2, nI_1]; exact ihj (y, M') ⟨sm', by show y = _; rw [e, hv]⟩)
          have add0 : ∀ n : Nat, (nI n + 0 : Int32) = nI n := fun n => by show nI n + nI 0 = _; rw [nI_add]; rfl
          refine h17 _ _ _ _ ⟨fun c => absurd c (by rw [q_le (by omega) (by omega)]; omega), fun _ => ?_⟩
          refine s_isOnM h6 hM' hj ?_
          cases h1 : suO τ j with
          | false => exact t0 (h52 _ _ _ _ (step _ _ _ sm (by rw [hs, cntB_f (by unfold clB; rw [h1]; simp), add0])))
          | true =>
            refine t1 ?_
            refine s_isOnM h6 hM' (by omega) ?_
            cases h2 : suO τ i with
            | false => exact t0 (h52 _ _ _ _ (step _ _ _ sm (by rw [hs, cntB_f (by unfold clB; rw [h2]; simp), add0])))
            | true =>
              refine t1 ?_
              refine s_fwM ho hM' (by omega) hj (fun v M' sm' wm => ?_)
              cases h3 : wit τ i j with
              | none =>
                rw [h3] at wm
                have wm : v = 0 := wm
                refine ⟨fun _ => h52 _ _ _ _ (step _ _ _ (sm.tr sm') (by rw [hs, cntB_f (by unfold clB; rw [h3]; simp), add0])), fun c => absurd (by rw [wm]; exact Int32.le_refl 0) c⟩
              | some w =>
                rw [h3] at wm
                have wm : v = nI w.length ∧ _ := wm
                have hw := wit_len ho (f := i) (g := j) (by omega) hj h3
                refine ⟨fun c => absurd c (by rw [wm.1]; exact nI_nle hw.1 (by omega)), fun _ => step _ _ _ (sm.tr sm') (by rw [hs, nI_1, cntB_t (by show clB τ i j = true; unfold clB; rw [h1, h2, h3]; simpa using hi), Nat.add_assoc])⟩)
        0 s (by omega) ⟨hs.1, hs.2⟩)
    0 (0, M) (by omega) ⟨sM.rf M, rfl⟩
  exact key
theorem p_clashes : LS_clashes RR := by
  intro X M h
  obtain ⟨τ, h1, h2, h3, h4⟩ := id h
  have h6 := h1.1.2.2.1
  refine s_clX h1.1 h1.2.1 (fun X' sx => ?_)
  refine s_clM h1.1 h1.2.2 (fun M' sm => ⟨?_, h.fr sx sm⟩)
  congr 1
  have e1 : sumN (fun i => cntB (clB τ i) (suF τ)) (suF τ) = sumN (fun i => sumN (fun j => if clB τ i j then 1 else 0) (suF τ)) (suF τ) := sum_cg _ (fun c hc => cnt_sum _ _)
  have e2 : sumN (fun j => cntB (fun i => clB τ i j) j) (suF τ) = sumN (fun j => sumN (fun i => if clB τ i j then 1 else 0) (suF τ)) (suF τ) := sum_cg _ (fun j hj => by
    rw [← cnt_sum]
    exact (cnt_ext (fun c hc => by unfold clB; simp; omega) (suF τ) (by omega)).symm)
  rw [e1, e2, sum_swap]
