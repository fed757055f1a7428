/-! signatures and groups, as the class makes them -/
def sgG (A : Nat → Int32) (g : Nat → Nat) (s x : Nat) : Nat := if A (4*s+x) = -1 then 0 else 1 + (10 * g (cT (A (4*s+x))) + cO (A (4*s+x)))
theorem or7 {a b : Nat} (ha : a < 2097152) (hb : b < 128) : (nI a <<< ((7 : Int32) &&& 31)) ||| nI b = nI (a * 128 + b) := by
  rw [pk_shlN ((7 : Int32) &&& 31) 7 (by decide) (by omega)]
  apply Int32.toBitVec_inj.mp
  apply BitVec.eq_of_toNat_eq
  rw [Int32.toBitVec_or, BitVec.toNat_or, pk_tn (by omega), pk_tn (by omega), pk_tn (by omega)]
  have := Nat.two_pow_add_eq_or_of_lt (i := 7) hb a
  rw [show a * 2^7 = 2^7 * a by omega, ← this]
theorem s_sig {n k p0 p3 s : Nat} (hn : n ≤ 8) (hk : k ≤ 4) {A : Nat → Int32} (hA : rowA n A) {μ : Mem} (h0 : isRow μ p0 A) (hs : s < n) {g : Nat → Nat} (hg : ∀ x, x < k → A (4*s+x) ≠ -1 → μ.1 p3 (cT (A (4*s+x))) = nI (g (cT (A (4*s+x)))) ∧ g (cT (A (4*s+x))) < 8) {K : Int32 → Mem → Prop} (hK : K (nI (sgN (sgG A g s) k)) μ) : f_X3_signatureOf p0 (nI s) (nI k) p3 μ K := by
  intro G6 G50 h6 h50
  have small : ∀ x, x < k → sgG A g s x < 128 := by
    intro x hx
    unfold sgG
    by_cases z : A (4*s+x) = -1
    · rw [if_pos z]; omega
    · rw [if_neg z]
      have := (hg x hx z).2
      have := (okA_arr hn (hA (4*s+x) (by omega)) z).2.2.2
      omega
  exact lp_up (fun x (v : Int32) => G6 (nI s) (nI k) v (nI x) μ) (fun x v => v = nI (sgN (sgG A g s) x)) k
    (fun v hv => h6 _ _ _ _ _ ⟨fun _ => by rw [hv]; exact hK, fun c => absurd (Int32.le_refl _) c⟩)
    (fun x v hx hv ih => by
      have hlt := sgN_lt x (fun y hy => small y (by omega))
      have : 128 ^ x ≤ 128 ^ 3 := Nat.pow_le_pow_right (by decide) (by omega)
      have e3 : (128 : Nat) ^ 3 = 2097152 := by decide
      have step : ∀ w, w = nI (sgG A g s x) → G50 (nI s) (nI k) v (nI x) w μ := by
        intro w hw
        refine h50 _ _ _ _ _ _ (fun y e y' e' => ?_)
        rw [e', nI_1]
        apply ih
        rw [e, hv, hw, or7 (by omega) (small x hx)]
        rfl
      refine h6 _ _ _ _ _ ⟨fun c => absurd c (by rw [q_le (by omega) (by omega)]; omega), fun _ => ?_⟩
      unfold f_X5_cellOf
      have ec : (nI s * 4 + nI x : Int32) = nI (4*s+x) := by show _ * nI 4 + _ = _; rw [pk_mul, nI_add, Nat.mul_comm]
      rw [ec]
      refine ⟨v_in (by omega) (by omega), fun y5 e5 => ?_⟩
      rw [q_cl (by omega), h0 _ (by omega)] at e5
      refine ⟨fun c => step 0 ?_, fun c => ?_⟩
      · unfold sgG
        rw [if_pos (by rw [← e5]; exact c)]
        rfl
      · have z : A (4*s+x) ≠ -1 := by rw [← e5]; exact c
        have r := okA_arr hn (hA (4*s+x) (by omega)) z
        have hgx := hg x hx z
        rw [← e5] at r hgx
        unfold f_X5_targetOf f_X5_outputOf f_X5_arrowOf
        rw [r.2.1, r.1]
        refine ⟨v_in (by omega) (by omega), fun y14 e14 => step y14 ?_⟩
        rw [q_cl (by omega), hgx.1] at e14
        rw [e14]
        unfold sgG
        rw [if_neg z, ← e5]
        show nI 1 + (nI 10 * nI _ + nI _) = _
        rw [pk_mul, nI_add, nI_add])
    0 0 (by omega) rfl
/-- a numbering of the first n states -/
def Nm (n c : Nat) (g : Nat → Nat) : Prop := (∀ s, s < n → g s < c) ∧ c ≤ n ∧ ∀ v, v < c → ∃ s, s < n ∧ g s = v
theorem s_group {n : Nat} (hn : n ≤ 8) {sg : Nat → Int32} {μ : Mem} (h53 : ∀ s, s < n → μ.1 53 s = sg s) {K : Int32 → Mem → Prop} (hK : ∀ c g μ', Nm n c g → (∀ s t, s < n → t < n → (g s = g t ↔ sg s = sg t)) → (∀ s, s < n → μ'.1 52 s = nI (g s)) → (∀ p, p ≠ 52 → μ'.1 p = μ.1 p) → μ'.2 = μ.2 → K (nI c) μ') : f_X3_groupBySignature (nI n) μ K := by
  intro G4 G12 G40 G72 h4 h12 h40 h72
  have key := lp_up (fun i (s : Nat × (Nat → Nat) × Mem) => G4 (nI n) (nI s.1) (nI i) s.2.2) (fun i s => Nm i s.1 s.2.1 ∧ (∀ a b, a < i → b < i → (s.2.1 a = s.2.1 b ↔ sg a = sg b)) ∧ (∀ a, a < i → s.2.2.1 52 a = nI (s.2.1 a)) ∧ (∀ p, p ≠ 52 → s.2.2.1 p = μ.1 p) ∧ s.2.2.2 = μ.2) n
    (fun s hs => h4 _ _ _ _ ⟨fun _ => hK s.1 s.2.1 s.2.2 hs.1 hs.2.1 hs.2.2.1 hs.2.2.2.1 hs.2.2.2.2, fun c => absurd (Int32.le_refl _) c⟩)
    (fun i s hi hs ih => by
      obtain ⟨c, g, μ'⟩ := s
      obtain ⟨⟨n1, n2, n3⟩, hg, hm, hf, hf2⟩ := hs
      have n1 : ∀ s, s < i → g s < c := n1
      have n2 : c ≤ i := n2
      have n3 : ∀ v, v < c → ∃ s, s < i ∧ g s = v := n3
      have hg : ∀ a b, a < i → b < i → (g a = g b ↔ sg a = sg b) := hg
      have hm : ∀ a, a < i → μ'.1 52 a = nI (g a) := hm
      have hf : ∀ p, p ≠ 52 → μ'.1 p = μ.1 p := hf
      have s53 : ∀ a, a < n → μ'.1 53 a = sg a := fun a ha => by rw [hf 53 (by omega)]; exact h53 a ha
      refine h4 _ _ _ _ ⟨fun z => absurd z (by rw [q_le (by omega) (by omega)]; omega), fun _ => ?_⟩
      -- what is done once the place is found
      have done : ∀ (c' v : Nat), (∃ j, j < i ∧ sg j = sg i ∧ v = g j ∧ c' = c) ∨ ((∀ j, j < i → sg j ≠ sg i) ∧ v = c ∧ c' = c + 1) → G72 (nI n) (nI c') (nI i) (wI μ' 52 i (nI v)) := by
        intro c' v hv
        refine h72 _ _ _ _ (fun y e => ?_)
        rw [e, nI_1]
        refine ih (c', fun a => if a = i then v else g a, _) ⟨⟨?_, ?_, ?_⟩, ?_, ?_, ?_, hf2⟩
        · intro a ha
          show (if a = i then v else g a) < c'
          by_cases z : a = i
          · rw [if_pos z]
            rcases hv with ⟨j, q1, q2, q3, q4⟩ | ⟨_, q3, q4⟩
            · have := n1 j q1; omega
            · omega
          · rw [if_neg z]
            have := n1 a (by omega)
            rcases hv with ⟨j, q1, q2, q3, q4⟩ | ⟨_, q3, q4⟩ <;> omega
        · show c' ≤ i + 1
          rcases hv with ⟨j, q1, q2, q3, q4⟩ | ⟨_, q3, q4⟩ <;> omega
        · intro w hw
          have hw : w < c' := hw
          show ∃ s, s < i + 1 ∧ (if s = i then v else g s) = w
          rcases Nat.lt_or_ge w c with z | z
          · obtain ⟨s, q1, q2⟩ := n3 w z
            exact ⟨s, by omega, by rw [if_neg (by omega)]; exact q2⟩
          · rcases hv with ⟨j, q1, q2, q3, q4⟩ | ⟨_, q3, q4⟩
            · omega
            · exact ⟨i, by omega, by rw [if_pos rfl]; omega⟩
        · intro a b ha hb
          show (if a = i then v else g a) = (if b = i then v else g b) ↔ sg a = sg b
          have one : ∀ a, a < i → (v = g a ↔ sg i = sg a) := by
            intro a ha
            rcases hv with ⟨j, q1, q2, q3, q4⟩ | ⟨q1, q3, q4⟩
            · rw [q3, ← q2]; exact hg j a q1 ha
            · refine ⟨fun e => ?_, fun e => absurd e.symm (q1 a ha)⟩
              have := n1 a ha
              omega
          by_cases za : a = i
          · by_cases zb : b = i
            · rw [if_pos za, if_pos zb, za, zb]; simp
            · rw [if_pos za, if_neg zb, za]; exact one b (by omega)
          · by_cases zb : b = i
            · rw [if_neg za, if_pos zb, zb]
              exact ⟨fun e => ((one a (by omega)).mp e.symm).symm, fun e => ((one a (by omega)).mpr e.symm).symm⟩
            · rw [if_neg za, if_neg zb]; exact hg a b (by omega) (by omega)
        · intro a ha
          show (wI μ' 52 i (nI v)).1 52 a = nI (if a = i then v else g a)
          rw [wI_at]
          by_cases z : a = i
          · rw [if_pos ⟨rfl, z⟩, if_pos z]
          · rw [if_neg (by omega), if_neg z]; exact hm a (by omega)
        · intro p hp
          show (wI μ' 52 i (nI v)).1 p = _
          rw [wI_row hp]; exact hf p hp
      have find : ∀ r j, j + r = i → (∀ j', j' < j → sg j' ≠ sg i) → G12 (nI n) (nI c) (nI i) (nI j) μ' := by
        intro r
        induction r with
        | zero =>
          intro j hj hne
          refine h12 _ _ _ _ _ ⟨fun _ => h40 _ _ _ _ _ ⟨fun _ => ⟨v_in (by omega) (by omega), fun μ9 e9 y10 e10 => ?_⟩, fun z => absurd (by rw [q_le (by omega) (by omega)]; omega) z⟩, fun z => absurd (by rw [q_le (by omega) (by omega)]; omega) z⟩
          rw [q_cl (by omega)] at e9
          rw [e9, e10, nI_1]
          exact done (c+1) c (Or.inr ⟨fun j' hj' => hne j' (by omega), rfl, rfl⟩)
        | succ r ihr =>
          intro j hj hne
          refine h12 _ _ _ _ _ ⟨fun z => absurd z (by rw [q_le (by omega) (by omega)]; omega), fun _ => ⟨v_in (by omega) (by omega), v_in (by omega) (by omega), ?_⟩⟩
          rw [q_cl (by omega), q_cl (by omega), s53 j (by omega), s53 i hi]
          refine ⟨fun z => h40 _ _ _ _ _ ⟨fun w => absurd w (by rw [q_le (by omega) (by omega)]; omega), fun _ => ⟨v_in (by omega) (by omega), v_in (by omega) (by omega), fun μ13 e13 => ?_⟩⟩, fun z y6 e6 => ?_⟩
          · rw [q_cl (by omega), q_cl (by omega), hm j (by omega)] at e13
            rw [e13]
            exact done c (g j) (Or.inl ⟨j, by omega, z, rfl, rfl⟩)
          · rw [e6, nI_1]
            refine ihr (j+1) (by omega) (fun j' hj' => ?_)
            rcases Nat.lt_or_ge j' j with w | w
            · exact hne j' w
            · rw [show j' = j by omega]; exact z
      exact find i 0 (by omega) (fun j' hj' => by omega))
    0 (0, (fun _ => 0), μ) (by omega) ⟨⟨fun s hs => by omega, by show 0 ≤ 0; omega, fun v (hv : v < 0) => by omega⟩, fun a b ha => by omega, fun a ha => by omega, fun _ _ => rfl, rfl⟩
  exact key
theorem nm_same {n c c' : Nat} {g g' : Nat → Nat} (h : Nm n c g) (h' : Nm n c' g') (hr : ∀ s t, s < n → t < n → g' s = g' t → g s = g t) (hc : c' ≤ c) : ∀ a b, a < n → b < n → g a = g b → g' a = g' b := by
  intro a b ha hb hab
  refine Classical.byContradiction (fun hne => ?_)
  have hrep : ∀ v, ∃ s, v < c → s < n ∧ g s = v ∧ (v = g a → s = a) := by
    intro v
    by_cases z : v = g a
    · exact ⟨a, fun _ => ⟨ha, z.symm, fun _ => rfl⟩⟩
    · rcases Nat.lt_or_ge v c with y | y
      · obtain ⟨s, q1, q2⟩ := h.2.2 v y
        exact ⟨s, fun _ => ⟨q1, q2, fun q => absurd q z⟩⟩
      · exact ⟨0, fun q => by omega⟩
  let rep : Nat → Nat := fun v => Classical.choose (hrep v)
  have rp : ∀ v, v < c → rep v < n ∧ g (rep v) = v ∧ (v = g a → rep v = a) := fun v hv => Classical.choose_spec (hrep v) hv
  have nd : ((List.range c).map (fun v => g' (rep v)) ++ [g' b]).Nodup := by
    refine List.nodup_append.mpr ⟨?_, by simp, ?_⟩
    · refine List.pairwise_map.mpr (List.nodup_range.imp_of_mem ?_)
      intro v w hv hw hvw e
      have h1 := rp v (List.mem_range.mp hv)
      have h2 := rp w (List.mem_range.mp hw)
      exact hvw (by rw [← h1.2.1, ← h2.2.1]; exact hr _ _ h1.1 h2.1 e)
    · intro x hx y hy
      rw [List.mem_singleton.mp hy]
      obtain ⟨v, hv, rfl⟩ := List.mem_map.mp hx
      have h1 := rp v (List.mem_range.mp hv)
      intro e
      have e2 := hr _ _ h1.1 hb e
      rw [h1.2.1, ← hab] at e2
      rw [h1.2.2 e2] at e
      exact hne e
  have := nd_len _ (List.range c') nd (fun x hx => by
    rw [List.mem_range]
    rcases List.mem_append.mp hx with y | y
    · obtain ⟨v, hv, rfl⟩ := List.mem_map.mp y
      exact h'.1 _ (rp v (List.mem_range.mp hv)).1
    · rw [List.mem_singleton.mp y]; exact h'.1 b hb)
  simp at this
  omega
