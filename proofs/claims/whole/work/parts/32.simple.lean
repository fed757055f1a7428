/-! calls that change one thing -/
theorem RR_of {X M X' M' : Mem} {τ τ' : SU} (h2 : RW X M (suK τ)) (h3 : RZ X M) (h4 : RT X M) (h1 : RS X' 1 M' 1 0 τ') (hk : suK τ' = suK τ) (eX : ∀ p, p = 0 ∨ 11 ≤ p → X'.1 p = X.1 p) (eM : ∀ p, p ≠ 1 → M'.1 p = M.1 p) : RR X' M' :=
  ⟨τ', h1, by rw [hk]; exact h2.fr (by rw [eX 0 (by omega)]) (eX 36 (by omega)) (by rw [eM 0 (by omega)]) (eM 4 (by omega)), h3.fr (fun p a b => eX p (by omega)) (eM 2 (by omega)) (eM 3 (by omega)), h4.fr (by rw [eX 33 (by omega)]) (eX 34 (by omega)) (by rw [eM 0 (by omega)]) (eM 5 (by omega))⟩
theorem RS_setB {X M : Mem} {τ : SU} (h : RS X 1 M 1 0 τ) {c : Nat} (hc : c < 32) {v : Int32} (hv : okA (suN τ) v) : RS (wI X 2 c v) 1 (wI M 1 (2+c) v) 1 0 (τ.1, upd (suB τ) c v, τ.2.2) := by
  obtain ⟨h0, hX, hM⟩ := h
  refine ⟨?_, ?_, ?_⟩
  · refine ⟨h0.1, h0.2.1, h0.2.2.1, fun d hd => ?_, h0.2.2.2.2⟩
    show okA (suN τ) (upd (suB τ) c v d)
    rw [upd_at]
    by_cases e : d = c
    · rw [if_pos e]; exact hv
    · rw [if_neg e]; exact h0.2.2.2.1 d hd
  · obtain ⟨a0, a1, a2, a3, a4, a5, a6⟩ := hX
    refine ⟨by rw [wI_row (by omega)]; exact a0, by rw [wI_row (by omega)]; exact a1, by rw [wI_row (by omega)]; exact a2, fun f hf => by rw [wI_row (by omega)]; exact a3 f hf, fun d hd => ?_, fun f hf d hd => ?_, fun g hg f hf => ?_⟩
    · show (wI X 2 c v).1 2 d = upd (suB τ) c v d
      rw [wI_at, upd_at]
      by_cases e : d = c
      · rw [if_pos ⟨rfl, e⟩, if_pos e]
      · rw [if_neg (fun q => e q.2), if_neg e]; exact a4 d hd
    · rw [wI_row (by omega)]; exact a5 f hf d hd
    · rw [wI_row (by omega)]; exact a6 g hg f hf
  · obtain ⟨a0, a1, a2, a3, a4, a5, told, a6, a7, a8⟩ := hM
    refine ⟨by rw [wI_at, if_neg (by omega)]; exact a0, by rw [wI_at, if_neg (by omega)]; exact a1, by rw [wI_at, if_neg (by omega)]; exact a2, fun d hd => ?_, fun f hf => by rw [wI_at, if_neg (by omega)]; exact a4 f hf, fun f hf d hd => by rw [wI_at, if_neg (by omega)]; exact a5 f hf d hd, told, fun f hf g hg => by rw [wI_at, if_neg (by omega)]; exact a6 f hf g hg, a7, a8⟩
    show _ = upd (suB τ) c v d
    rw [wI_at, upd_at]
    by_cases e : d = c
    · rw [if_pos ⟨rfl, by omega⟩, if_pos e]
    · rw [if_neg (by omega), if_neg e]; exact a3 d hd
/-- the changes of a feature, one of them set anew -/
def upE (e : Nat → Nat → Int32) (f c : Nat) (v : Int32) : Nat → Nat → Int32 := fun g d => if g = f ∧ d = c then v else e g d
theorem RS_setE {X M : Mem} {τ : SU} (h : RS X 1 M 1 0 τ) {f c : Nat} (hf : f < suF τ) (hc : c < 32) {v : Int32} (hv : okE (suN τ) v) : RS (wI X (4+f) c v) 1 (wI M 1 (35+34*f+1+c) (encM v)) 1 0 (τ.1, suB τ, upE (suE τ) f c v, τ.2.2.2) := by
  obtain ⟨h0, hX, hM⟩ := h
  have h6 : suF τ ≤ 6 := h0.2.2.1
  refine ⟨?_, ?_, ?_⟩
  · refine ⟨h0.1, h0.2.1, h0.2.2.1, h0.2.2.2.1, fun g hg d hd => ?_, h0.2.2.2.2.2⟩
    show okE (suN τ) (if g = f ∧ d = c then v else suE τ g d)
    by_cases e : g = f ∧ d = c
    · rw [if_pos e]; exact hv
    · rw [if_neg e]; exact h0.2.2.2.2.1 g hg d hd
  · obtain ⟨a0, a1, a2, a3, a4, a5, a6⟩ := hX
    refine ⟨by rw [wI_row (by omega)]; exact a0, by rw [wI_row (by omega)]; exact a1, by rw [wI_row (by omega)]; exact a2, fun g hg => by rw [wI_row (by omega)]; exact a3 g hg, fun d hd => by rw [wI_row (by omega)]; exact a4 d hd, fun g hg d hd => ?_, fun g hg k hk => by rw [wI_row (by omega)]; exact a6 g hg k hk⟩
    show _ = if g = f ∧ d = c then v else suE τ g d
    rw [wI_at]
    by_cases e : g = f ∧ d = c
    · rw [if_pos ⟨by omega, e.2⟩, if_pos e]
    · rw [if_neg (fun q => e ⟨by omega, q.2⟩), if_neg e]; exact a5 g hg d hd
  · obtain ⟨a0, a1, a2, a3, a4, a5, told, a6, a7, a8⟩ := hM
    refine ⟨by rw [wI_at, if_neg (by omega)]; exact a0, by rw [wI_at, if_neg (by omega)]; exact a1, by rw [wI_at, if_neg (by omega)]; exact a2, fun d hd => by rw [wI_at, if_neg (by omega)]; exact a3 d hd, fun g hg => by rw [wI_at, if_neg (by omega)]; exact a4 g hg, fun g hg d hd => ?_, told, fun g hg k hk => by rw [wI_at, if_neg (by omega)]; exact a6 g hg k hk, a7, a8⟩
    show _ = encM (if g = f ∧ d = c then v else suE τ g d)
    rw [wI_at]
    by_cases e : g = f ∧ d = c
    · obtain ⟨e1, e2⟩ := e
      subst e1; subst e2
      rw [if_pos ⟨rfl, by omega⟩, if_pos ⟨rfl, rfl⟩]
    · rw [if_neg (fun q => e ⟨by omega, by omega⟩), if_neg e]; exact a5 g hg d hd
theorem cell_eq (s x : Nat) : (nI s * 4 + nI x : Int32) = nI (s * 4 + x) := by
  show nI s * nI 4 + nI x = _
  rw [pk_mul, nI_add]
theorem arr_eq (s x : Nat) : (10 * nI s + nI x : Int32) = nI (10 * s + x) := by
  show nI 10 * nI s + nI x = _
  rw [pk_mul, nI_add]
theorem mcell_eq (a s x : Nat) : (nI a + 4 * nI s + nI x : Int32) = nI (a + 4 * s + x) := by
  show nI a + nI 4 * nI s + nI x = _
  rw [pk_mul, nI_add, nI_add]
/-- what an arrow was, as both tell it -/
theorem okA_tell {n : Nat} {x : Int32} (hn : n ≤ 8) (h : okA n x) : (x = -1 ∧ ¬ 0 ≤ x) ∨ (¬ x = -1 ∧ 0 ≤ x) := by
  rcases h with h | ⟨t, o, ht, ho, h⟩
  · subst h
    exact Or.inl ⟨rfl, by decide⟩
  · subst h
    exact Or.inr ⟨by rw [q_m1 _ (by omega)]; exact id, nI_pos' (by omega)⟩
/-- an arrow of the base is put in place of another -/
theorem put_base {X M : Mem} {τ : SU} (h1 : RS X 1 M 1 0 τ) (h2 : RW X M (suK τ)) (h3 : RZ X M) (h4 : RT X M) {s x : Nat} (hs : s < suN τ) (hx : x < suK τ) {v : Int32} (hv : okA (suN τ) v) {w : Int32} (hw : w = 2 + 4 * nI s + nI x) : f_X5_replaceArrow (nI s * 4 + nI x) v X (fun r1 X1 => f_X6_puts w v M (fun r2 M1 => r1 = r2 ∧ RR X1 M1)) := by
  have hn := h1.1.1.2
  have hk := h1.1.2.1.2
  have ew : w = nI (2 + (s * 4 + x)) := by
    rw [hw]
    show nI 2 + 4 * nI s + nI x = _
    rw [mcell_eq]
    congr 1
    omega
  have fin : ∀ X1 M1 : Mem, X1 = wI X 2 (s * 4 + x) v → M1 = wI M 1 (2 + (s * 4 + x)) v → RR X1 M1 := by
    intro X1 M1 e1 e2
    subst e1; subst e2
    exact RR_of h2 h3 h4 (RS_setB h1 (by omega) hv) rfl (fun p hp => wI_row (by omega)) (fun p hp => wI_row hp)
  rw [cell_eq, ew]
  refine ⟨v_in (by omega) (by omega), ?_⟩
  intro y ey
  refine ⟨v_in (by omega) (by omega), ?_⟩
  intro X1 eX1
  rw [q_cl (by omega)] at ey eX1
  have eB : y = suB τ (s * 4 + x) := by rw [ey]; exact h1.2.1.2.2.2.2.1 _ (by omega)
  have eM : M.1 1 (2 + (s * 4 + x)) = y := by
    rw [eB, ← h1.2.2.2.2.2.1 (s * 4 + x) (by omega)]
  have hy : okA (suN τ) y := by rw [eB]; exact h1.1.2.2.2.1 _ (by omega)
  have tail : ∀ r, ((¬ y = -1 → r = y) ∧ (y = -1 → r = -5)) → f_X6_puts (nI (2 + (s * 4 + x))) v M (fun r2 M1 => r = r2 ∧ RR X1 M1) := by
    intro r hr
    refine ⟨v_in (by omega) (by omega), ?_⟩
    intro y2 ey2
    refine ⟨v_in (by omega) (by omega), ?_⟩
    intro M1 eM1
    rw [q_cl (by omega)] at ey2 eM1
    rw [eM] at ey2
    subst ey2
    rcases okA_tell hn hy with ⟨q1, q2⟩ | ⟨q1, q2⟩
    · exact ⟨fun c => absurd c q2, fun _ => ⟨hr.2 q1, fin X1 M1 eX1 eM1⟩⟩
    · exact ⟨fun _ => ⟨hr.1 q1, fin X1 M1 eX1 eM1⟩, fun c => absurd q2 c⟩
  exact ⟨fun c => tail y ⟨fun _ => rfl, fun d => absurd d c⟩, fun c => tail (-5) ⟨fun d => absurd c d, fun _ => rfl⟩⟩
theorem s_mono_replace {a v : Int32} {X : Mem} {K K' : Int32 → Mem → Prop} (h : f_X5_replaceArrow a v X K) (hk : ∀ r Y, K r Y → K' r Y) : f_X5_replaceArrow a v X K' := by
  obtain ⟨g1, g2⟩ := h
  refine ⟨g1, fun y ey => ⟨(g2 y ey).1, fun Y eY => ⟨fun c => hk _ _ (((g2 y ey).2 Y eY).1 c), fun c => hk _ _ (((g2 y ey).2 Y eY).2 c)⟩⟩⟩
theorem p_setArrow : LS_setArrow RR := by
  intro X M a1 a2 a3 a4 h
  obtain ⟨τ, h1, h2, h3, h4⟩ := id h
  have hn := h1.1.1.2
  have hk := h1.1.2.1.2
  have n1 : suN τ < 2147483648 := by omega
  have k1 : suK τ < 2147483648 := by omega
  have eM0 : M.1 1 0 = nI (suN τ) := h1.2.2.1
  have eM1 : M.1 1 1 = nI (suK τ) := h1.2.2.2.1
  have bad : ¬ (inR a1 (suN τ) ∧ inR a2 (suK τ) ∧ inR a3 (suN τ)) → f_X6_setArrow a1 a2 a3 a4 M (fun r2 M1 => (-1 : Int32) = r2 ∧ RR X M1) := by
    intro q
    refine s_isState n1 eM0 (fun q1 => t1 ?_) (fun _ => t0 ⟨rfl, h⟩)
    refine s_isLetter k1 eM1 (fun q2 => t1 ?_) (fun _ => t0 ⟨rfl, h⟩)
    exact s_isState n1 eM0 (fun q3 => absurd ⟨q1, q2, q3⟩ q) (fun _ => u0 ⟨rfl, h⟩)
  refine s_hasCell n1 k1 h1.2.1.1 h1.2.1.2.1 (fun q1 q2 => t1 ?_) (fun q => t0 (bad (fun z => q ⟨z.1, z.2.1⟩)))
  refine s_hasState n1 h1.2.1.1 (fun q3 => u1 ?_) (fun q => u0 (bad (fun z => q z.2.2)))
  refine s_isOutput (fun q4 => u1 ?_) (fun q4 => u0 ?_)
  · obtain ⟨s, hs, rfl⟩ := id q1
    obtain ⟨x, hx, rfl⟩ := id q2
    obtain ⟨t, ht, rfl⟩ := id q3
    obtain ⟨o, ho, rfl⟩ := id q4
    show f_X5_replaceArrow (nI s * 4 + nI x) (10 * nI t + nI o) X _
    have go := put_base h1 h2 h3 h4 hs hx (v := 10 * nI t + nI o) (Or.inr ⟨t, o, ht, ho, arr_eq t o⟩) rfl
    refine s_mono_replace go (fun r1 X1 hh => ?_)
    refine s_isState n1 eM0 (fun _ => t1 ?_) (fun c => absurd q1 c)
    refine s_isLetter k1 eM1 (fun _ => t1 ?_) (fun c => absurd q2 c)
    refine s_isState n1 eM0 (fun _ => u1 ?_) (fun c => absurd q3 c)
    exact s_in09 (fun _ => t1 hh) (fun c => absurd q4 c)
  · refine s_isState n1 eM0 (fun _ => t1 ?_) (fun c => absurd q1 c)
    refine s_isLetter k1 eM1 (fun _ => t1 ?_) (fun c => absurd q2 c)
    refine s_isState n1 eM0 (fun _ => u1 ?_) (fun c => absurd q3 c)
    exact s_in09 (fun c => absurd c q4) (fun _ => t0 ⟨rfl, h⟩)
theorem p_removeArrow : LS_removeArrow RR := by
  intro X M a1 a2 h
  obtain ⟨τ, h1, h2, h3, h4⟩ := id h
  have hn := h1.1.1.2
  have hk := h1.1.2.1.2
  have n1 : suN τ < 2147483648 := by omega
  have k1 : suK τ < 2147483648 := by omega
  have eM0 : M.1 1 0 = nI (suN τ) := h1.2.2.1
  have eM1 : M.1 1 1 = nI (suK τ) := h1.2.2.2.1
  refine s_hasCell n1 k1 h1.2.1.1 h1.2.1.2.1 (fun q1 q2 => u1 ?_) (fun q => u0 ?_)
  · obtain ⟨s, hs, rfl⟩ := id q1
    obtain ⟨x, hx, rfl⟩ := id q2
    show f_X5_replaceArrow (nI s * 4 + nI x) (-1) X _
    have go := put_base h1 h2 h3 h4 hs hx (v := -1) (Or.inl rfl) rfl
    refine s_mono_replace go (fun r1 X1 hh => ?_)
    refine s_isState n1 eM0 (fun _ => t1 ?_) (fun c => absurd q1 c)
    exact s_isLetter k1 eM1 (fun _ => u1 hh) (fun c => absurd q2 c)
  · refine s_isState n1 eM0 (fun q1 => t1 ?_) (fun _ => t0 ⟨rfl, h⟩)
    exact s_isLetter k1 eM1 (fun q2 => absurd ⟨q1, q2⟩ q) (fun _ => u0 ⟨rfl, h⟩)
