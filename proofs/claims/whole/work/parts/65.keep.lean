/-! the kinds kept so far: their machines -/
def KP (n k lim : Nat) (Ks : List (Nat → Int32)) (μ : Mem) : Prop := μ.1 49 2 = nI Ks.length ∧ μ.1 49 3 = nI lim ∧ lim ≤ 720 ∧ Ks.length ≤ lim ∧ ∀ i B, Ks[i]? = some B → rowA n B ∧ isForm n k B (fun j => μ.2 56 (4*i+j))
theorem KP.fr {n k lim : Nat} {Ks : List (Nat → Int32)} {μ μ' : Mem} (h : KP n k lim Ks μ) (e : μ'.1 49 = μ.1 49) (e2 : μ'.2 56 = μ.2 56) : KP n k lim Ks μ' := by
  unfold KP
  rw [e, e2]
  exact h
theorem s_isFormAt {i : Nat} (hi : i < 720) {μ : Mem} {K : Int32 → Mem → Prop} (h1 : (∀ j, j < 4 → μ.2 56 (4*i+j) = μ.2 51 j) → K 1 μ) (h0 : ¬ (∀ j, j < 4 → μ.2 56 (4*i+j) = μ.2 51 j) → K 0 μ) : f_X1_isFormAt (nI (4*i)) μ K := by
  intro G2 h2
  exact lp_up (fun j (_ : Unit) => G2 (nI (4*i)) (nI j) μ) (fun j _ => ∀ j', j' < j → μ.2 56 (4*i+j') = μ.2 51 j') 4
    (fun _ h => h2 _ _ _ ⟨fun _ => h1 h, fun c => absurd (Int32.le_refl 4) c⟩)
    (fun j _ hj h ih => by
      refine h2 _ _ _ ⟨fun c => absurd c (by show ¬ nI 4 ≤ nI j; rw [q_le (by omega) (by omega)]; omega), fun _ => ?_⟩
      rw [nI_add]
      refine ⟨v_in (by omega) (by omega), v_in hj (by omega), ?_⟩
      rw [q_cl (by omega), q_cl (by omega), lg_cmp_eq]
      refine ⟨fun z y e => ?_, fun z => h0 (fun q => z (q j hj))⟩
      rw [e, nI_1]
      refine ih () (fun j' hj' => ?_)
      rcases Nat.lt_or_ge j' j with w | w
      · exact h j' w
      · rw [show j' = j by omega]; exact z)
    0 () (by omega) (fun j' hj' => by omega)
theorem s_keepForm {n k lim : Nat} (h1 : 1 ≤ n) (hn : n ≤ 8) (hk : k ≤ 4) {Ks : List (Nat → Int32)} {μ : Mem} (hP : KP n k lim Ks μ) {A : Nat → Int32} (hA : rowA n A) (hF : isForm n k A (μ.2 51)) {K : Mem → Prop} (hK : ∀ Ks' μ', KP n k lim Ks' μ' → ((Ks' = Ks ∧ (lim ≤ Ks.length ∨ ∃ B ∈ Ks, alk k A B)) ∨ (Ks' = Ks ++ [A] ∧ ∀ B ∈ Ks, ¬ alk k A B)) → (∀ q, q ≠ 49 → μ'.1 q = μ.1 q) → K μ') : f_X1_keepForm μ K := by
  obtain ⟨p1, p2, p3, p4, p5⟩ := id hP
  unfold f_X1_keepForm
  rw [p1, p2, q_le (by omega) (by omega)]
  refine ⟨fun c => hK Ks μ hP (Or.inl ⟨rfl, Or.inl c⟩) (fun _ _ => rfl), fun c => ?_⟩
  have same : ∀ i B, Ks[i]? = some B → ((∀ j, j < 4 → μ.2 56 (4*i+j) = μ.2 51 j) ↔ alk k B A) := fun i B hB => form_alk h1 hn hk (p5 i B hB).1 hA (p5 i B hB).2 hF
  intro G2 h2
  refine lp_up (fun i (_ : Unit) => G2 (nI i) μ) (fun i _ => ∀ i' B, i' < i → Ks[i']? = some B → ¬ alk k A B) Ks.length ?_ ?_ 0 () (by omega) (fun i' B hi' => by omega)
  · intro _ h
    refine h2 _ _ ⟨fun _ => ?_, fun z => absurd (by rw [p1]; exact Int32.le_refl _) z⟩
    refine t0 ?_
    rw [p1]
    have e4 : (nI Ks.length * 4 : Int32) = nI (4 * Ks.length) := by show _ * nI 4 = _; rw [pk_mul, Nat.mul_comm]
    rw [e4, q_cl (by omega)]
    refine ⟨⟨⟨by decide, nI_pos (by omega), by decide⟩, by decide, by show 4 * Ks.length + 4 ≤ 2880; omega⟩, fun μ6 e6 μ7 e7 => ?_⟩
    have c6 : μ6.1 49 2 = nI Ks.length := by rw [e6]; exact p1
    rw [c6, nI_1] at e7
    refine hK (Ks ++ [A]) μ7 ⟨?_, ?_, p3, ?_, ?_⟩ (Or.inr ⟨rfl, fun B hB => ?_⟩) (fun q hq => by rw [e7, wI_row hq, e6]; rfl)
    · rw [e7, wI_at, if_pos ⟨rfl, rfl⟩, List.length_append]; rfl
    · rw [e7, wI_at, if_neg (by omega), e6]; exact p2
    · rw [List.length_append]; show Ks.length + 1 ≤ lim; omega
    · have f56 : μ7.2 56 = va_cpy (μ.2 51) (μ.2 56) 0 (4 * Ks.length) 4 := by rw [e7, wI_2, e6, wB_eq]; rfl
      intro i B hB
      rw [f56]
      rcases Nat.lt_or_ge i Ks.length with z | z
      · rw [List.getElem?_append_left z] at hB
        have := p5 i B hB
        refine ⟨this.1, ?_⟩
        obtain ⟨e, s1, s2⟩ := this.2
        refine ⟨e, s1, fun j hj => ?_⟩
        show va_cpy (μ.2 51) (μ.2 56) 0 (4 * Ks.length) 4 (4*i+j) = _
        rw [pk_cpy_out (by omega)]
        exact s2 j hj
      · rw [List.getElem?_append_right z] at hB
        have hv' : i = Ks.length := by
          rcases Nat.lt_or_ge (i - Ks.length) 1 with w | w
          · omega
          · rw [List.getElem?_eq_none (by simpa using w)] at hB; cases hB
        subst hv'
        rw [Nat.sub_self] at hB
        have hB : A = B := Option.some.inj hB
        subst hB
        refine ⟨hA, ?_⟩
        obtain ⟨e, s1, s2⟩ := hF
        refine ⟨e, s1, fun j hj => ?_⟩
        show va_cpy (μ.2 51) (μ.2 56) 0 (4 * Ks.length) 4 (4*Ks.length+j) = _
        rw [pk_cpy_in (by omega) (by omega), show 0 + (4*Ks.length+j - 4*Ks.length) = j by omega]
        exact s2 j hj
    · obtain ⟨i, hi⟩ := List.getElem?_of_mem hB
      refine h i B ?_ hi
      rcases Nat.lt_or_ge i Ks.length with z | z
      · exact z
      · rw [List.getElem?_eq_none z] at hi; cases hi
  · intro i _ hi h ih
    have gi : Ks[i]? = some (Ks[i]'hi) := List.getElem?_eq_getElem _
    refine h2 _ _ ⟨fun z => absurd z (by rw [p1, q_le (by omega) (by omega)]; omega), fun _ => ?_⟩
    have e4 : (nI i * 4 : Int32) = nI (4 * i) := by show _ * nI 4 = _; rw [pk_mul, Nat.mul_comm]
    rw [e4]
    refine s_isFormAt (by omega) (fun q => ?_) (fun q => ?_)
    · refine t1 (t1 ?_)
      exact hK Ks μ hP (Or.inl ⟨rfl, Or.inr ⟨_, List.mem_of_getElem? gi, alk_sy ((same i _ gi).mp q)⟩⟩) (fun _ _ => rfl)
    · refine t0 (fun y e => ?_)
      rw [e, nI_1]
      refine ih () (fun i' B hi' hB => ?_)
      rcases Nat.lt_or_ge i' i with z | z
      · exact h i' B z hB
      · rw [show i' = i by omega] at hB
        exact fun a => q ((same i B hB).mpr (alk_sy a))
