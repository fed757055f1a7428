/-! a feature's changes -/
theorem enc_val {n : Nat} {x : Int32} (hn : n ≤ 8) (h : okA n x) (hx : x ≠ -1) : encM x = x := by
  unfold encM
  rcases h with h | ⟨t, o, ht, ho, h⟩
  · exact absurd h hx
  · subst h
    rw [if_neg (by rw [q_m2 _ (by omega)]; exact id), if_neg hx]
/-- behind a change of a feature's change: both count alike, and agree -/
theorem count_both {X1 M1 : Mem} {τ : SU} {f : Nat} (h1 : RS X1 1 M1 1 0 τ) (hf : f < suF τ) (hR : RR X1 M1) : nI (cntB (fun c => decide (X1.1 (1+3+f) c ≠ -2)) 32) = nI (cntB (fun c => decide (0 ≤ M1.1 1 (35+34*f+1+c))) 32) ∧ RR X1 M1 := ⟨by rw [count_eq h1 hf], hR⟩
theorem aw_eq (f s x : Nat) : (35 + 34 * nI f + (1 + 4 * nI s + nI x) : Int32) = nI (35 + 34 * f + 1 + (s * 4 + x)) := by
  have e : (1 + 4 * nI s + nI x : Int32) = nI (1 + 4 * s + x) := mcell_eq 1 s x
  rw [e, at_eq]
  congr 1
  omega
/-- a feature's change is put: the class, then the reference -/
theorem put_edit {X M : Mem} {τ : SU} (h1 : RS X 1 M 1 0 τ) (h2 : RW X M (suK τ)) (h3 : RZ X M) (h4 : RT X M) {f s x : Nat} (hf : f < suF τ) (hs : s < suN τ) (hx : x < suK τ) {v : Int32} (hv : okE (suN τ) v) {X1 M1 : Mem} (e1 : X1 = wI X (4+f) (s*4+x) v) (e2 : M1 = wI M 1 (35+34*f+1+(s*4+x)) (encM v)) : RS X1 1 M1 1 0 (τ.1, suB τ, upE (suE τ) f (s*4+x) v, τ.2.2.2) ∧ RR X1 M1 := by
  have hn := h1.1.1.2
  have hk := h1.1.2.1.2
  have h6 := h1.1.2.2.1
  subst e1; subst e2
  have g := RS_setE h1 (c := s*4+x) hf (by omega) hv
  exact ⟨g, RR_of h2 h3 h4 g rfl (fun p hp => wI_row (by omega)) (fun p hp => wI_row hp)⟩
theorem p_change : LS_change RR := by
  intro X M a1 a2 a3 a4 a5 h
  obtain ⟨τ, h1, h2, h3, h4⟩ := id h
  have hn := h1.1.1.2
  have hk := h1.1.2.1.2
  have h6 := h1.1.2.2.1
  have n1 : suN τ < 2147483648 := by omega
  have k1 : suK τ < 2147483648 := by omega
  have f1 : suF τ < 2147483648 := by omega
  have eM0 : M.1 1 0 = nI (suN τ) := h1.2.2.1
  have eM1 : M.1 1 1 = nI (suK τ) := h1.2.2.2.1
  have eMf : M.1 1 34 = nI (suF τ) := h1.2.2.2.2.1
  have bad : ¬ (inR a1 (suF τ) ∧ inR a2 (suN τ) ∧ inR a3 (suK τ) ∧ inR a4 (suN τ)) → f_X6_change a1 a2 a3 a4 a5 M (fun r2 M1 => (-1 : Int32) = r2 ∧ RR X M1) := by
    intro q
    refine s_isFeature f1 eMf (fun q0 => t1 ?_) (fun _ => t0 ⟨rfl, h⟩)
    refine s_isState n1 eM0 (fun q1 => t1 ?_) (fun _ => t0 ⟨rfl, h⟩)
    refine s_isLetter k1 eM1 (fun q2 => t1 ?_) (fun _ => t0 ⟨rfl, h⟩)
    exact s_isState n1 eM0 (fun q3 => absurd ⟨q0, q1, q2, q3⟩ q) (fun _ => u0 ⟨rfl, h⟩)
  refine s_hasFeature f1 h1.2.1.2.2.1 (fun q0 => t1 ?_) (fun q => t0 (bad (fun z => q z.1)))
  refine s_hasCell n1 k1 h1.2.1.1 h1.2.1.2.1 (fun q1 q2 => t1 ?_) (fun q => t0 (bad (fun z => q ⟨z.2.1, z.2.2.1⟩)))
  refine s_hasState n1 h1.2.1.1 (fun q3 => u1 ?_) (fun q => u0 (bad (fun z => q z.2.2.2)))
  refine s_isOutput (fun q4 => u1 ?_) (fun q4 => u0 ?_)
  · obtain ⟨f, hf, rfl⟩ := id q0
    obtain ⟨s, hs, rfl⟩ := id q1
    obtain ⟨x, hx, rfl⟩ := id q2
    obtain ⟨t, ht, rfl⟩ := id q3
    obtain ⟨o, ho, rfl⟩ := id q4
    refine ⟨v_in (by omega) (by omega), ?_⟩
    show vp_in (nI s * 4 + nI x) 32 ∧ _
    rw [cell_eq]
    refine ⟨v_in (by omega) (by omega), ?_⟩
    intro X1 eX1
    rw [q_cl (by omega), q_cl (by omega)] at eX1
    have hA : okA (suN τ) (10 * nI t + nI o) := Or.inr ⟨t, o, ht, ho, arr_eq t o⟩
    have hA1 : (10 * nI t + nI o : Int32) ≠ -1 := by rw [arr_eq, Ne, q_m1 _ (by omega)]; exact id
    refine s_countEdits (by omega) ?_
    refine s_isFeature f1 eMf (fun _ => t1 ?_) (fun c => absurd q0 c)
    refine s_isState n1 eM0 (fun _ => t1 ?_) (fun c => absurd q1 c)
    refine s_isLetter k1 eM1 (fun _ => t1 ?_) (fun c => absurd q2 c)
    refine s_isState n1 eM0 (fun _ => u1 ?_) (fun c => absurd q3 c)
    refine s_in09 (fun _ => u1 ?_) (fun c => absurd q4 c)
    show vp_in (35 + 34 * nI f + (1 + 4 * nI s + nI x)) 239 ∧ _
    rw [aw_eq]
    refine ⟨v_in (by omega) (by omega), ?_⟩
    intro M1 eM1'
    rw [q_cl (by omega)] at eM1'
    refine s_count (by omega) ?_
    obtain ⟨g1, g2⟩ := put_edit (M1 := M1) h1 h2 h3 h4 hf hs hx (Or.inr hA) eX1 (by rw [eM1', enc_val hn hA hA1])
    exact count_both g1 hf g2
  · refine s_isFeature f1 eMf (fun _ => t1 ?_) (fun c => absurd q0 c)
    refine s_isState n1 eM0 (fun _ => t1 ?_) (fun c => absurd q1 c)
    refine s_isLetter k1 eM1 (fun _ => t1 ?_) (fun c => absurd q2 c)
    refine s_isState n1 eM0 (fun _ => u1 ?_) (fun c => absurd q3 c)
    exact s_in09 (fun c => absurd c q4) (fun _ => u0 ⟨rfl, h⟩)
theorem p_changeToNone : LS_changeToNone RR := by
  intro X M a1 a2 a3 h
  obtain ⟨τ, h1, h2, h3, h4⟩ := id h
  have hn := h1.1.1.2
  have hk := h1.1.2.1.2
  have h6 := h1.1.2.2.1
  have n1 : suN τ < 2147483648 := by omega
  have k1 : suK τ < 2147483648 := by omega
  have f1 : suF τ < 2147483648 := by omega
  have eM0 : M.1 1 0 = nI (suN τ) := h1.2.2.1
  have eM1 : M.1 1 1 = nI (suK τ) := h1.2.2.2.1
  have eMf : M.1 1 34 = nI (suF τ) := h1.2.2.2.2.1
  have bad : ¬ (inR a1 (suF τ) ∧ inR a2 (suN τ) ∧ inR a3 (suK τ)) → f_X6_changeToNone a1 a2 a3 M (fun r2 M1 => (-1 : Int32) = r2 ∧ RR X M1) := by
    intro q
    refine s_isFeature f1 eMf (fun q0 => t1 ?_) (fun _ => t0 ⟨rfl, h⟩)
    refine s_isState n1 eM0 (fun q1 => t1 ?_) (fun _ => t0 ⟨rfl, h⟩)
    exact s_isLetter k1 eM1 (fun q2 => absurd ⟨q0, q1, q2⟩ q) (fun _ => u0 ⟨rfl, h⟩)
  refine s_hasFeature f1 h1.2.1.2.2.1 (fun q0 => t1 ?_) (fun q => t0 (bad (fun z => q z.1)))
  refine s_hasCell n1 k1 h1.2.1.1 h1.2.1.2.1 (fun q1 q2 => u1 ?_) (fun q => u0 (bad (fun z => q z.2)))
  obtain ⟨f, hf, rfl⟩ := id q0
  obtain ⟨s, hs, rfl⟩ := id q1
  obtain ⟨x, hx, rfl⟩ := id q2
  refine ⟨v_in (by omega) (by omega), ?_⟩
  show vp_in (nI s * 4 + nI x) 32 ∧ _
  rw [cell_eq]
  refine ⟨v_in (by omega) (by omega), ?_⟩
  intro X1 eX1
  rw [q_cl (by omega), q_cl (by omega)] at eX1
  refine s_countEdits (by omega) ?_
  refine s_isFeature f1 eMf (fun _ => t1 ?_) (fun c => absurd q0 c)
  refine s_isState n1 eM0 (fun _ => t1 ?_) (fun c => absurd q1 c)
  refine s_isLetter k1 eM1 (fun _ => u1 ?_) (fun c => absurd q2 c)
  show vp_in (35 + 34 * nI f + (1 + 4 * nI s + nI x)) 239 ∧ _
  rw [aw_eq]
  refine ⟨v_in (by omega) (by omega), ?_⟩
  intro M1 eM1'
  rw [q_cl (by omega)] at eM1'
  refine s_count (by omega) ?_
  obtain ⟨g1, g2⟩ := put_edit (M1 := M1) h1 h2 h3 h4 hf hs hx (v := -1) (Or.inr (Or.inl rfl)) eX1 (by rw [eM1']; rfl)
  exact count_both g1 hf g2
theorem p_unchange : LS_unchange RR := by
  intro X M a1 a2 a3 h
  obtain ⟨τ, h1, h2, h3, h4⟩ := id h
  have hn := h1.1.1.2
  have hk := h1.1.2.1.2
  have h6 := h1.1.2.2.1
  have n1 : suN τ < 2147483648 := by omega
  have k1 : suK τ < 2147483648 := by omega
  have f1 : suF τ < 2147483648 := by omega
  have eM0 : M.1 1 0 = nI (suN τ) := h1.2.2.1
  have eM1 : M.1 1 1 = nI (suK τ) := h1.2.2.2.1
  have eMf : M.1 1 34 = nI (suF τ) := h1.2.2.2.2.1
  have bad : ¬ (inR a1 (suF τ) ∧ inR a2 (suN τ) ∧ inR a3 (suK τ)) → f_X6_unchange a1 a2 a3 M (fun r2 M1 => (-1 : Int32) = r2 ∧ RR X M1) := by
    intro q
    refine s_isFeature f1 eMf (fun q0 => t1 ?_) (fun _ => t0 ⟨rfl, h⟩)
    refine s_isState n1 eM0 (fun q1 => t1 ?_) (fun _ => t0 ⟨rfl, h⟩)
    exact s_isLetter k1 eM1 (fun q2 => absurd ⟨q0, q1, q2⟩ q) (fun _ => u0 ⟨rfl, h⟩)
  refine s_hasFeature f1 h1.2.1.2.2.1 (fun q0 => t1 ?_) (fun q => t0 (bad (fun z => q z.1)))
  refine s_hasCell n1 k1 h1.2.1.1 h1.2.1.2.1 (fun q1 q2 => u1 ?_) (fun q => u0 (bad (fun z => q z.2)))
  obtain ⟨f, hf, rfl⟩ := id q0
  obtain ⟨s, hs, rfl⟩ := id q1
  obtain ⟨x, hx, rfl⟩ := id q2
  show vp_in (nI f) 6 ∧ (vp_in (nI s * 4 + nI x) 32 ∧ _)
  rw [cell_eq]
  refine ⟨v_in (by omega) (by omega), v_in (by omega) (by omega), ?_⟩
  rw [q_cl (a := f) (by omega), q_cl (a := s * 4 + x) (by omega)]
  have eE : X.1 (4+f) (s*4+x) = suE τ f (s*4+x) := h1.2.1.2.2.2.2.2.1 f hf _ (by omega)
  have eME : M.1 1 (35+34*f+1+(s*4+x)) = encM (suE τ f (s*4+x)) := by
    rw [← h1.2.2.2.2.2.2.2.1 f hf (s*4+x) (by omega), Nat.zero_add]
  have hE : okE (suN τ) (suE τ f (s*4+x)) := h1.1.2.2.2.2.1 f hf _ (by omega)
  have enn := encM_nn hn hE
  have mod : ∀ {K : Int32 → Mem → Prop}, f_X6_puts (nI (35+34*f+1+(s*4+x))) (-1) M (fun r12 M13 => (0 ≤ r12 → (f_X6_count (nI f) M13 (fun r15 M16 => K r15 M16))) ∧ (¬ 0 ≤ r12 → (K (-5) M13))) → f_X6_unchange (nI f) (nI s) (nI x) M K := by
    intro K hK
    refine s_isFeature f1 eMf (fun _ => t1 ?_) (fun c => absurd q0 c)
    refine s_isState n1 eM0 (fun _ => t1 ?_) (fun c => absurd q1 c)
    refine s_isLetter k1 eM1 (fun _ => u1 ?_) (fun c => absurd q2 c)
    show f_X6_puts (35 + 34 * nI f + (1 + 4 * nI s + nI x)) (-1) M _
    rw [aw_eq]
    exact hK
  rw [eE]
  refine ⟨fun c => ⟨v_in (by omega) (by omega), v_in (by omega) (by omega), ?_⟩, fun c => mod ?_⟩
  · intro X1 eX1
    refine s_countEdits (by omega) (mod ?_)
    refine ⟨v_in (by omega) (by omega), fun y ey => ⟨v_in (by omega) (by omega), fun M1 eM1' => ?_⟩⟩
    rw [q_cl (by omega)] at ey eM1'
    rw [eME] at ey
    have hy : 0 ≤ y := by rw [ey]; exact enn.mpr c
    obtain ⟨g1, g2⟩ := put_edit (M1 := M1) h1 h2 h3 h4 hf hs hx (v := -2) (Or.inl rfl) eX1 (by rw [eM1']; rfl)
    exact ⟨fun _ => ⟨fun _ => s_count (by omega) (count_both g1 hf g2), fun z => absurd hy z⟩, fun z => absurd hy z⟩
  · refine ⟨v_in (by omega) (by omega), fun y ey => ⟨v_in (by omega) (by omega), fun M1 eM1' => ?_⟩⟩
    rw [q_cl (by omega)] at ey eM1'
    rw [eME] at ey
    have hy : ¬ 0 ≤ y := by rw [ey]; exact fun z => enn.mp z c
    have hM : M1 = M := by
      rw [eM1']
      unfold wI
      rw [show upd (M.1 1) (35+34*f+1+(s*4+x)) (-1) = M.1 1 from ?_, wA_self]
      funext j
      rw [upd_at]
      by_cases e : j = 35+34*f+1+(s*4+x)
      · rw [if_pos e, e, eME, c]; rfl
      · rw [if_neg e]
    refine ⟨fun z => absurd z hy, fun _ => ⟨fun z => absurd z (by decide), fun _ => ⟨rfl, by rw [hM]; exact h⟩⟩⟩
