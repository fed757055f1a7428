/-! machines: what a feature's changes make of one -/
def mP (τ : SU) (f : Nat) (A : Nat → Int32) : Nat → Int32 := fun c => if suE τ f c = -2 then A c else suE τ f c
def isRow (μ : Mem) (p : Nat) (A : Nat → Int32) : Prop := ∀ c, c < 32 → μ.1 p c = A c
theorem rowA_B {τ : SU} (h : okS τ) : rowA (suN τ) (suB τ) := h.2.2.2.1
theorem rowA_mP {τ : SU} (h : okS τ) {f : Nat} (hf : f < suF τ) {A : Nat → Int32} (hA : rowA (suN τ) A) : rowA (suN τ) (mP τ f A) := by
  intro c hc
  unfold mP
  by_cases z : suE τ f c = -2
  · rw [if_pos z]; exact hA c hc
  · rw [if_neg z]
    exact (h.2.2.2.2.1 f hf c hc).resolve_left z
theorem s_putOn' {τ : SU} {f p0 p1 p2 : Nat} {μ : Mem} {A : Nat → Int32} {K : Mem → Prop} (hne : p1 ≠ p2) (h0 : isRow μ p0 A) (h1 : isRow μ p1 (suE τ f)) (hK : ∀ μ', isRow μ' p2 (mP τ f A) → (∀ p, p ≠ p2 → μ'.1 p = μ.1 p) → K μ') : f_X5_putOn p0 p1 p2 μ K := by
  refine s_putOn p0 p1 p2 μ K hne (hK _ ?_ (fun p hp => wA_ne hp))
  intro c hc
  rw [wA_eq]
  show (if c < 32 then _ else _) = _
  rw [if_pos hc, h0 c hc, h1 c hc]
  rfl
theorem s_base' {τ : SU} {p : Nat} {M : Mem} (hp : p ≠ 1) (h : RMS M 1 0 τ) {K : Mem → Prop} (hK : ∀ M', isRow M' p (suB τ) → (∀ q, q ≠ p → M'.1 q = M.1 q) → K M') : f_X6_base p M K := by
  refine s_base p hp M K (hK _ ?_ (fun q hq => wA_ne hq))
  intro c hc
  rw [wA_eq]
  show (if c < 32 then _ else _) = _
  rw [if_pos hc]
  have := h.2.2.2.1 c hc
  rwa [Nat.zero_add] at this
theorem s_putsOn' {τ : SU} (ho : okS τ) {f p : Nat} {M : Mem} (hp : p ≠ 1) (hf : f < suF τ) (h : RMS M 1 0 τ) {A : Nat → Int32} (h0 : isRow M p A) {K : Mem → Prop} (hK : ∀ M', isRow M' p (mP τ f A) → (∀ q, q ≠ p → M'.1 q = M.1 q) → K M') : f_X6_putsOn p (nI f) M K := by
  have h6 : suF τ ≤ 6 := ho.2.2.1
  have h8 : suN τ ≤ 8 := ho.1.2
  refine s_putsOn p hp (by omega) M K (hK _ ?_ (fun q hq => wA_ne hq))
  intro c hc
  rw [wA_eq]
  show (if c < 32 then _ else _) = _
  rw [if_pos hc]
  have e := h.2.2.2.2.2.1 f hf c hc
  rw [Nat.zero_add] at e
  have hE := ho.2.2.2.2.1 f hf c hc
  rw [e, h0 c hc]
  have := encM_nn h8 hE
  unfold mP
  by_cases z : suE τ f c = -2
  · rw [if_pos z, if_neg (fun y => this.mp y z)]
  · rw [if_neg z, if_pos (this.mpr z)]
    unfold encM
    rw [if_neg z]
    rcases hE with y | y | ⟨t, o, ht, hoo, y⟩
    · exact absurd y z
    · rw [if_pos y, if_pos rfl, y]
    · have n1 : ¬ nI (10*t+o) = -1 := by rw [q_m1 _ (by omega)]; exact id
      have n2 : ¬ nI (10*t+o) = 100 := by
        show ¬ nI (10*t+o) = nI 100
        rw [q_eq (by omega) (by omega)]
        omega
      rw [y, if_neg n1, if_neg n2]
theorem RXS.B {X : Mem} {τ : SU} (h : RXS X 1 τ) : isRow X 2 (suB τ) := h.2.2.2.2.1
theorem RXS.E {X : Mem} {τ : SU} (h : RXS X 1 τ) {f : Nat} (hf : f < suF τ) : isRow X (4+f) (suE τ f) := h.2.2.2.2.2.1 f hf
/-- the word that tells f then g from g then f -/
def wit (τ : SU) (f g : Nat) : Option (List Nat) := wt (suK τ) (mP τ g (mP τ f (suB τ))) (mP τ f (mP τ g (suB τ)))
theorem s_fwX {τ : SU} (ho : okS τ) {X : Mem} (hX : RXS X 1 τ) {f g : Nat} (hf : f < suF τ) (hg : g < suF τ) {K : Int32 → Mem → Prop} (hK : ∀ X', sX X X' → WO (suK τ) (wit τ f g) (X'.1 41) (X'.1 42) → K (if (wit τ f g).isSome then 1 else 0) X') : f_X5_findWitness (nI f) (nI g) X K := by
  have h6 : suF τ ≤ 6 := ho.2.2.1
  have h8 : suN τ ≤ 8 := ho.1.2
  have k4 : suK τ ≤ 4 := ho.2.1.2
  unfold f_X5_findWitness
  rw [q_cl (by omega), q_cl (by omega)]
  refine ⟨v_in (by omega) (by omega), s_putOn' (by omega) hX.B (hX.E hf) (fun X1 r1 e1 => ⟨v_in (by omega) (by omega), ?_⟩)⟩
  refine s_putOn' (τ := τ) (f := g) (by omega) r1 (fun c hc => by rw [e1 _ (by omega)]; exact hX.E hg c hc) (fun X2 r2 e2 => ⟨v_in (by omega) (by omega), ?_⟩)
  have f2 : ∀ p, p ≠ 37 → X2.1 p = X.1 p := fun p hp => by rw [e2 p hp, e1 p hp]
  refine s_putOn' (τ := τ) (f := g) (A := suB τ) (by omega) (fun c hc => by rw [f2 _ (by omega)]; exact hX.B c hc) (fun c hc => by rw [f2 _ (by omega)]; exact hX.E hg c hc) (fun X3 r3 e3 => ⟨v_in (by omega) (by omega), ?_⟩)
  refine s_putOn' (τ := τ) (f := f) (by omega) r3 (fun c hc => by rw [e3 _ (by omega), f2 _ (by omega)]; exact hX.E hf c hc) (fun X4 r4 e4 => ?_)
  have f4 : ∀ p, p < 37 ∨ 38 < p → X4.1 p = X.1 p := fun p hp => by rw [e4 p (by omega), e3 p (by omega), f2 p (by omega)]
  have r5 : isRow X4 37 (mP τ g (mP τ f (suB τ))) := fun c hc => by rw [e4 _ (by omega), e3 _ (by omega)]; exact r2 c hc
  rw [f4 1 (by omega), hX.2.1]
  have oA := rowA_mP ho hg (rowA_mP ho hf (rowA_B ho))
  have oB := rowA_mP ho hf (rowA_mP ho hg (rowA_B ho))
  refine s_search (n := suN τ) (by omega) (by omega) h8 k4 (fun c hc => by rw [r5 c hc]; exact oA c hc) (fun c hc => by rw [r4 c hc]; exact oB c hc) (fun r X5 hr f5 w5 => ?_)
  have er : wit τ f g = r := by
    rw [← wt_of (m := 0) hr]
    exact (wt_cg ho.1.1 h8 k4 oA oB r5 r4).symm
  rw [← er] at w5
  have s5 : sX X X5 := ⟨fun p hp => by rw [f5 p (by omega), f4 p (by omega)], by rw [f5 33 (by omega), f4 33 (by omega)]⟩
  have hK := hK X5 s5 w5
  cases hw : wit τ f g with
  | none =>
    rw [hw] at w5 hK
    have w5 : X5.1 41 0 = 0 := w5
    rw [w5]
    exact ⟨fun _ => hK, fun c => absurd (Int32.le_refl 0) c⟩
  | some w =>
    rw [hw] at w5 hK
    have w5 : 0 < w.length ∧ w.length ≤ 64 ∧ X5.1 41 0 = nI w.length ∧ ∀ i y, w[i]? = some y → X5.1 42 i = nI y ∧ y < suK τ := w5
    rw [w5.2.2.1]
    exact ⟨fun c => absurd c (nI_nle w5.1 (by omega)), fun _ => hK⟩
theorem s_fwM17 {τ : SU} (ho : okS τ) {M : Mem} (hM : RMS M 1 0 τ) {f g : Nat} (hf : f < suF τ) (hg : g < suF τ) {K : Int32 → Mem → Prop} (hK : ∀ v M', sM M M' → M'.1 17 = M.1 17 → WM (wit τ f g) v (M'.1 13) → K v M') : f_X6_findWitness (nI f) (nI g) M K := by
  have h6 : suF τ ≤ 6 := ho.2.2.1
  have h8 : suN τ ≤ 8 := ho.1.2
  have k4 : suK τ ≤ 4 := ho.2.1.2
  refine s_base' (τ := τ) (by omega) hM (fun M1 r1 e1 => ?_)
  refine s_putsOn' ho (by omega) hf (hM.fr (e1 1 (by omega))) r1 (fun M2 r2 e2 => ?_)
  have g2 : M2.1 1 = M.1 1 := by rw [e2 1 (by omega), e1 1 (by omega)]
  refine s_putsOn' ho (by omega) hg (hM.fr g2) r2 (fun M3 r3 e3 => ?_)
  have g3 : M3.1 1 = M.1 1 := by rw [e3 1 (by omega), g2]
  refine s_base' (τ := τ) (by omega) (hM.fr g3) (fun M4 r4 e4 => ?_)
  have g4 : M4.1 1 = M.1 1 := by rw [e4 1 (by omega), g3]
  refine s_putsOn' ho (by omega) hg (hM.fr g4) r4 (fun M5 r5 e5 => ?_)
  have g5 : M5.1 1 = M.1 1 := by rw [e5 1 (by omega), g4]
  refine s_putsOn' ho (by omega) hf (hM.fr g5) r5 (fun M6 r6 e6 => ?_)
  have g6 : M6.1 1 = M.1 1 := by rw [e6 1 (by omega), g5]
  have fr : ∀ p, p ≠ 7 → p ≠ 8 → M6.1 p = M.1 p := fun p a b => by rw [e6 p b, e5 p b, e4 p b, e3 p a, e2 p a, e1 p a]
  have r7 : isRow M6 7 (mP τ g (mP τ f (suB τ))) := fun c hc => by rw [e6 _ (by omega), e5 _ (by omega), e4 _ (by omega)]; exact r3 c hc
  have oA := rowA_mP ho hg (rowA_mP ho hf (rowA_B ho))
  have oB := rowA_mP ho hf (rowA_mP ho hg (rowA_B ho))
  obtain ⟨m, hm⟩ := wt_M (k := suK τ) ho.1.1 h8 k4 oA oB r7 r6
  refine s_findApart (n := suN τ) h8 k4 (by rw [g6]; exact hM.2.1) (fun c hc => by rw [r7 c hc]; exact oA c hc) (fun c hc => by rw [r6 c hc]; exact oB c hc) hm (fun v M7 f7 w7 => ?_)
  exact hK v M7 ⟨fun p a b => by rw [f7 p (by omega), fr p (by omega) (by omega)], by rw [f7 0 (by omega), fr 0 (by omega) (by omega)], by rw [f7 0 (by omega), fr 0 (by omega) (by omega)]⟩ (by rw [f7 17 (by omega), fr 17 (by omega) (by omega)]) w7
theorem s_fwM {τ : SU} (ho : okS τ) {M : Mem} (hM : RMS M 1 0 τ) {f g : Nat} (hf : f < suF τ) (hg : g < suF τ) {K : Int32 → Mem → Prop} (hK : ∀ v M', sM M M' → WM (wit τ f g) v (M'.1 13) → K v M') : f_X6_findWitness (nI f) (nI g) M K := s_fwM17 ho hM hf hg (fun v M' a _ b => hK v M' a b)
theorem s_areTwo {x y : Int32} {μ : Mem} {K : Int32 → Mem → Prop} {n : Nat} (hn : n < 2147483648) (e : μ.1 1 2 = nI n) (h1 : inR x n → inR y n → x ≠ y → K 1 μ) (h0 : ¬ (inR x n ∧ inR y n ∧ x ≠ y) → K 0 μ) : f_X5_areTwoFeatures x y μ K := by
  refine s_hasFeature hn e (fun q => t1 ?_) (fun q => t0 (h0 (fun z => q z.1)))
  refine s_hasFeature hn e (fun q2 => t1 ?_) (fun q2 => t0 (h0 (fun z => q2 z.2.1)))
  exact ⟨fun c => h0 (fun z => z.2.2 c), fun c => h1 q q2 c⟩
theorem s_isPair {x y : Int32} {μ : Mem} {K : Int32 → Mem → Prop} {n : Nat} (hn : n < 2147483648) (e : μ.1 1 34 = nI n) (h1 : inR x n → inR y n → x ≠ y → K 1 μ) (h0 : ¬ (inR x n ∧ inR y n ∧ x ≠ y) → K 0 μ) : f_X6_isPair x y μ K := by
  refine s_isFeature hn e (fun q => t1 ?_) (fun q => t0 (h0 (fun z => q z.1)))
  refine s_isFeature hn e (fun q2 => t1 ?_) (fun q2 => t0 (h0 (fun z => q2 z.2.1)))
  exact ⟨fun c => h0 (fun z => z.2.2 c), fun c => h1 q q2 c⟩
/-- a word on both sides: its length is 0 or not -/
theorem WM_le {k : Nat} {r : Option (List Nat)} {v : Int32} {pn pw pm : Nat → Int32} (h : WO k r pn pw) (h2 : WM r v pm) : (v ≤ 0) = (r.isSome = false) := by
  cases r with
  | none =>
    have h2 : v = 0 := h2
    rw [h2]
    simp
  | some w =>
    have h : 0 < w.length ∧ w.length ≤ 64 ∧ _ := h
    have h2 : v = nI w.length ∧ _ := h2
    rw [h2.1]
    have := nI_nle h.1 (by omega : w.length < 2^31)
    simp [this]
theorem p_clash : LS_clash RR := by
  intro X M a1 a2 h
  obtain ⟨τ, h1, h2, h3, h4⟩ := id h
  have h6 := h1.1.2.2.1
  refine s_areTwo (n := suF τ) (by omega) h1.2.1.2.2.1 (fun q1 q2 ne => u1 ?_) (fun q => u0 ?_)
  · obtain ⟨f, hf, rfl⟩ := id q1
    obtain ⟨g, hg, rfl⟩ := id q2
    refine s_fwX h1.1 h1.2.1 hf hg (fun X' sx wx => ?_)
    have fin : ∀ b : Bool, b = (wit τ f g).isSome → f_X6_clash (nI f) (nI g) M (fun r2 M1 => (if b then (1 : Int32) else 0) = r2 ∧ RR X' M1) := by
      intro b hb
      refine s_isPair (n := suF τ) (by omega) h1.2.2.2.2.1 (fun _ _ _ => u1 ?_) (fun c => absurd ⟨q1, q2, ne⟩ c)
      refine s_fwM h1.1 h1.2.2 hf hg (fun v M' sm wm => ?_)
      rw [WM_le wx wm, ← hb]
      refine ⟨fun c => ⟨by rw [c]; rfl, h.fr sx sm⟩, fun c => ⟨?_, h.fr sx sm⟩⟩
      cases b with
      | true => rfl
      | false => exact absurd rfl c
    cases hw : (wit τ f g).isSome with
    | true => exact t1 (fin true hw.symm)
    | false => exact t0 (fin false hw.symm)
  · exact s_isPair (n := suF τ) (by omega) h1.2.2.2.2.1 (fun a b c => absurd ⟨a, b, c⟩ q) (fun _ => u0 ⟨rfl, h⟩)
/-- a letter of the word, on both sides -/
theorem s_letter {k : Nat} {r : Option (List Nat)} {X M : Mem} {v x3 : Int32} (h : WO k r (X.1 41) (X.1 42)) (h2 : WM r v (M.1 13)) (hx : 0 ≤ x3) {P : Int32 → Int32 → Mem → Mem → Prop} (hP : ∀ z, P z z X M) : f_X0_letterAt x3 X (fun r7 X8 => (v ≤ x3 → P r7 (-5) X8 M) ∧ (¬ v ≤ x3 → (vp_in x3 82 ∧ P r7 (M.1 13 x3.toNatClampNeg) X8 M))) := by
  have hx0 : ¬ x3 < 0 := fun c => by
    rw [Int32.lt_iff_toInt_lt] at c
    rw [Int32.le_iff_toInt_le] at hx
    have : (0 : Int32).toInt = 0 := rfl
    omega
  obtain ⟨j, hj, rfl⟩ := nI_of hx0
  refine ⟨fun c => absurd c hx0, fun _ => ?_⟩
  cases r with
  | none =>
    have h : X.1 41 0 = 0 := h
    have h2 : v = 0 := h2
    rw [h, h2]
    exact ⟨fun c => ⟨fun _ => hP _, fun d => absurd c d⟩, fun c => absurd hx c⟩
  | some w =>
    have h : 0 < w.length ∧ w.length ≤ 64 ∧ X.1 41 0 = nI w.length ∧ ∀ i y, w[i]? = some y → X.1 42 i = nI y ∧ y < k := h
    have h2 : v = nI w.length ∧ ∀ i y, w[i]? = some y → M.1 13 i = nI y := h2
    rw [h.2.2.1, h2.1]
    refine ⟨fun c => ⟨fun _ => hP _, fun d => absurd c d⟩, fun c => ?_⟩
    have c' := c
    rw [q_le (by omega) (by omega)] at c'
    have hg : w[j]? = some (w[j]'(by omega)) := List.getElem?_eq_getElem _
    refine ⟨v_in (by omega) (by omega), fun d => absurd d c, fun _ => ⟨v_in (by omega) (by omega), ?_⟩⟩
    rw [q_cl (by omega), (h.2.2.2 j _ hg).1, h2.2 j _ hg]
    exact hP _
theorem p_witness : LS_witness RR := by
  intro X M a1 a2 a3 h
  obtain ⟨τ, h1, h2, h3, h4⟩ := id h
  have h6 := h1.1.2.2.1
  refine s_areTwo (n := suF τ) (by omega) h1.2.1.2.2.1 (fun q1 q2 ne => t1 ?_) (fun q => t0 ?_)
  · obtain ⟨f, hf, rfl⟩ := id q1
    obtain ⟨g, hg, rfl⟩ := id q2
    refine ⟨fun c => ?_, fun c => ?_⟩
    · refine s_fwX h1.1 h1.2.1 hf hg (fun X' sx wx => ?_)
      -- the reference's side first
      have : ∀ r7 X8, ((∀ v M', sM M M' → WM (wit τ f g) v (M'.1 13) → (v ≤ a3 → (r7 = (-5 : Int32) ∧ RR X8 M')) ∧ (¬ v ≤ a3 → (vp_in a3 82 ∧ (r7 = M'.1 13 a3.toNatClampNeg ∧ RR X8 M')))) → f_X6_witness (nI f) (nI g) a3 M (fun r2 M1 => r7 = r2 ∧ RR X8 M1)) := by
        intro r7 X8 hh
        refine s_isPair (n := suF τ) (by omega) h1.2.2.2.2.1 (fun _ _ _ => t1 ?_) (fun c => absurd ⟨q1, q2, ne⟩ c)
        refine ⟨fun _ => ?_, fun d => absurd c d⟩
        exact s_fwM h1.1 h1.2.2 hf hg (fun v M' sm wm => hh v M' sm wm)
      have mono : ∀ {x : Int32} {P Q : Int32 → Mem → Prop}, (∀ r m, P r m → Q r m) → f_X0_letterAt x X' P → f_X0_letterAt x X' Q := by
        intro x P Q hPQ hP
        exact ⟨fun c => hPQ _ _ (hP.1 c), fun c => ⟨fun d => hPQ _ _ ((hP.2 c).1 d), fun d => ⟨((hP.2 c).2 d).1, hPQ _ _ ((hP.2 c).2 d).2⟩⟩⟩
      refine mono (fun r m hh => this r m hh) ?_
      -- the letter is the same for every run of the reference
      have nc : ¬ a3 < 0 := fun z => by
        rw [Int32.lt_iff_toInt_lt] at z
        rw [Int32.le_iff_toInt_le] at c
        have : (0 : Int32).toInt = 0 := rfl
        omega
      have key : ∀ v M', sM M M' → WM (wit τ f g) v (M'.1 13) → f_X0_letterAt a3 X' (fun r7 X8 => (v ≤ a3 → (r7 = (-5 : Int32) ∧ RR X8 M')) ∧ (¬ v ≤ a3 → (vp_in a3 82 ∧ (r7 = M'.1 13 a3.toNatClampNeg ∧ RR X8 M')))) := fun v M' sm wm => s_letter wx wm c (P := fun a b X8 M8 => a = b ∧ RR X8 M8) (fun z => ⟨rfl, h.fr sx sm⟩)
      refine ⟨fun z => absurd z nc, fun _ => ⟨fun d v M' sm wm => ((key v M' sm wm).2 nc).1 d, fun d => ⟨?_, fun v M' sm wm => (((key v M' sm wm).2 nc).2 d).2⟩⟩⟩
      obtain ⟨j, hj, rfl⟩ := nI_of nc
      cases hw : wit τ f g with
      | none =>
        rw [hw] at wx
        have wx : X'.1 41 0 = 0 := wx
        rw [wx] at d
        exact absurd c d
      | some w =>
        rw [hw] at wx
        have wx : 0 < w.length ∧ w.length ≤ 64 ∧ X'.1 41 0 = nI w.length ∧ _ := wx
        rw [wx.2.2.1, q_le (by omega) (by omega)] at d
        exact v_in (by omega) (by omega)
    · refine s_isPair (n := suF τ) (by omega) h1.2.2.2.2.1 (fun _ _ _ => t1 ?_) (fun c => absurd ⟨q1, q2, ne⟩ c)
      exact ⟨fun d => absurd d c, fun _ => ⟨rfl, h⟩⟩
  · exact s_isPair (n := suF τ) (by omega) h1.2.2.2.2.1 (fun a b c => absurd ⟨a, b, c⟩ q) (fun _ => t0 ⟨rfl, h⟩)
