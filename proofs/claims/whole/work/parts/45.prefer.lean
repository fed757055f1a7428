theorem okS_P {τ : SU} {P' : Nat → Nat → Bool} (h : okS τ) (hb : ∀ f g, P' f g = true → f < suF τ ∧ g < suF τ) (ht : ∀ f g k, P' f g = true → P' g k = true → P' f k = true) (hi : ∀ f, P' f f = false) : okS (τ.1, suB τ, suE τ, suO τ, P') := ⟨h.1, h.2.1, h.2.2.1, h.2.2.2.1, h.2.2.2.2.1, h.2.2.2.2.2.1, hb, ht, hi⟩
theorem RXS_P {τ : SU} {P' : Nat → Nat → Bool} {X X' : Mem} (h6 : suF τ ≤ 6) (h : RXS X 1 τ) (eX : ∀ p, 1 ≤ p → p < 10 → X'.1 p = X.1 p) (eP : ∀ g, g < 6 → ∀ f, f < 32 → bt (X'.1 10 g) f = P' f g) : RXS X' 1 (τ.1, suB τ, suE τ, suO τ, P') := by
  obtain ⟨a0, a1, a2, a3, a4, a5, a6⟩ := h
  exact ⟨by rw [eX 1 (by omega) (by omega)]; exact a0, by rw [eX 1 (by omega) (by omega)]; exact a1, by rw [eX 1 (by omega) (by omega)]; exact a2, fun f hf => by rw [eX 1 (by omega) (by omega)]; exact a3 f hf, fun c hc => by rw [eX 2 (by omega) (by omega)]; exact a4 c hc, fun f hf c hc => by
    have hf' : f < suF τ := hf
    rw [eX _ (by omega) (by omega)]; exact a5 f hf c hc, eP⟩
theorem RMS_P {τ : SU} {P' told' : Nat → Nat → Bool} {M M' : Mem} (h : RMS M 1 0 τ) (eM : ∀ c, (∀ f, f < suF τ → c ≠ 35+34*f+33) → M'.1 1 c = M.1 1 c) (eT : ∀ f, f < suF τ → ∀ g, g < 32 → bt (M'.1 1 (35+34*f+33)) g = told' f g) (hT : ∀ f g, told' f g = true → f < suF τ ∧ g < suF τ) (hC : ∀ f g, P' f g = true ↔ ∃ n, rch told' n f g) : RMS M' 1 0 (τ.1, suB τ, suE τ, suO τ, P') := by
  obtain ⟨a0, a1, a2, a3, a4, a5, a6⟩ := h
  refine ⟨by rw [eM 0 (fun f _ => by omega)]; exact a0, by rw [eM (0+1) (fun f _ => by omega)]; exact a1, by rw [eM (0+34) (fun f _ => by omega)]; exact a2, fun c hc => by rw [eM _ (fun f _ => by omega)]; exact a3 c hc, fun f hf => by rw [eM _ (fun g _ => by omega)]; exact a4 f hf, fun f hf c hc => by rw [eM _ (fun g _ => by omega)]; exact a5 f hf c hc, told', fun f hf g hg => ?_, hT, hC⟩
  rw [Nat.zero_add]
  exact eT f hf g hg
/-- f before g, and what follows from it -/
def pre (τ : SU) (f g a b : Nat) : Bool := suP τ a b || ((decide (b = g) || suP τ g b) && (decide (a = f) || suP τ a f))
def suPre (τ : SU) (f g : Nat) : SU := (τ.1, suB τ, suE τ, suO τ, pre τ f g)
theorem pre_iff (τ : SU) (f g a b : Nat) : pre τ f g a b = true ↔ suP τ a b = true ∨ ((b = g ∨ suP τ g b = true) ∧ (a = f ∨ suP τ a f = true)) := by
  unfold pre
  simp
theorem okS_pre {τ : SU} (h : okS τ) {f g : Nat} (hf : f < suF τ) (hg : g < suF τ) (hne : f ≠ g) (hgf : suP τ g f = false) : okS (suPre τ f g) := by
  have hb := h.2.2.2.2.2.2.1
  have tr := h.2.2.2.2.2.2.2.1
  have ir := h.2.2.2.2.2.2.2.2
  have n1 : ∀ {a b : Nat}, suP τ a b = false → suP τ a b = true → False := fun q r => by rw [q] at r; cases r
  -- f and what is before it is not g or behind it
  have sep : ∀ a, (a = f ∨ suP τ a f = true) → (a = g ∨ suP τ g a = true) → False := by
    intro a h1 h2
    rcases h1 with rfl | h1
    · rcases h2 with h2 | h2
      · exact hne h2
      · exact n1 hgf h2
    · rcases h2 with rfl | h2
      · exact n1 hgf h1
      · exact n1 hgf (tr g a f h2 h1)
  refine okS_P h ?_ ?_ ?_
  · intro a b q
    rw [pre_iff] at q
    rcases q with q | ⟨q1, q2⟩
    · exact hb a b q
    · refine ⟨?_, ?_⟩
      · rcases q2 with rfl | q2
        · exact hf
        · exact (hb _ _ q2).1
      · rcases q1 with rfl | q1
        · exact hg
        · exact (hb _ _ q1).2
  · intro a b c q1 q2
    rw [pre_iff] at q1 q2 ⊢
    rcases q1 with q1 | ⟨q1, q1'⟩
    · rcases q2 with q2 | ⟨q2, q2'⟩
      · exact Or.inl (tr a b c q1 q2)
      · refine Or.inr ⟨q2, ?_⟩
        rcases q2' with rfl | q2'
        · exact Or.inr q1
        · exact Or.inr (tr a b f q1 q2')
    · rcases q2 with q2 | ⟨q2, q2'⟩
      · refine Or.inr ⟨?_, q1'⟩
        rcases q1 with rfl | q1
        · exact Or.inr q2
        · exact Or.inr (tr g b c q1 q2)
      · exact (sep b q2' q1).elim
  · intro a
    cases hq : pre τ f g a a with
    | false => rfl
    | true =>
      rw [pre_iff] at hq
      rcases hq with q | ⟨q1, q2⟩
      · exact (n1 (ir a) q).elim
      · exact (sep a q2 q1).elim
theorem rch_mono {t t' : Nat → Nat → Bool} (h : ∀ a b, t a b = true → t' a b = true) : ∀ n a b, rch t n a b → rch t' n a b
  | 0, a, b, q => h a b q
  | n + 1, a, b, ⟨k, q1, q2⟩ => ⟨k, h a k q1, rch_mono h n k b q2⟩
theorem rch_app {t : Nat → Nat → Bool} : ∀ n a b m c, rch t n a b → rch t m b c → rch t (n + m + 1) a c
  | 0, a, b, m, c, q, r => by rw [Nat.zero_add]; exact ⟨b, q, r⟩
  | n + 1, a, b, m, c, ⟨k, q1, q2⟩, r => by
    have := rch_app n k b m c q2 r
    rw [show n + 1 + m + 1 = (n + m + 1) + 1 by omega]
    exact ⟨k, q1, this⟩
theorem RMS_pre {τ : SU} (ho : okS τ) {M M' : Mem} (h : RMS M 1 0 τ) {f g : Nat} (hf : f < suF τ) (hg : g < suF τ) (ho' : okS (suPre τ f g)) (e : M'.1 1 = upd (M.1 1) (35+34*f+33) ((M.1 1 (35+34*f+33)) ||| (1 <<< (nI g &&& 31)))) : RMS M' 1 0 (suPre τ f g) := by
  have h6 : suF τ ≤ 6 := ho.2.2.1
  obtain ⟨told, ht, htb, htr⟩ := h.2.2.2.2.2.2
  have tr' : ∀ a b c, pre τ f g a b = true → pre τ f g b c = true → pre τ f g a c = true := ho'.2.2.2.2.2.2.2.1
  refine RMS_P (told' := fun a b => told a b || (decide (a = f) && decide (b = g))) h ?_ ?_ ?_ ?_
  · intro c hc
    rw [e, upd_at, if_neg (hc f hf)]
  · intro a ha b hb
    have hta := ht a ha b hb
    rw [Nat.zero_add] at hta
    rw [e, upd_at]
    by_cases z : a = f
    · subst z
      rw [if_pos rfl, bt_on (by omega) hb, hta]
      by_cases y : b = g <;> simp [y]
    · rw [if_neg (by omega), hta]
      simp [z]
  · intro a b q
    simp only [Bool.or_eq_true, Bool.and_eq_true, decide_eq_true_eq] at q
    rcases q with q | ⟨rfl, rfl⟩
    · exact htb a b q
    · exact ⟨hf, hg⟩
  · have mono : ∀ a b, told a b = true → (told a b || (decide (a = f) && decide (b = g))) = true := fun a b q => by rw [q]; rfl
    have new : rch (fun a b => told a b || (decide (a = f) && decide (b = g))) 0 f g := by show (told f g || (decide (f = f) && decide (g = g))) = true; simp
    intro a b
    constructor
    · intro q
      rw [pre_iff] at q
      rcases q with q | ⟨q1, q2⟩
      · obtain ⟨n, hn⟩ := (htr a b).mp q
        exact ⟨n, rch_mono mono n a b hn⟩
      · have s1 : ∃ n, rch (fun a b => told a b || (decide (a = f) && decide (b = g))) n a g := by
          rcases q2 with rfl | q2
          · exact ⟨0, new⟩
          · obtain ⟨n, hn⟩ := (htr a f).mp q2
            exact ⟨_, rch_app n a f 0 g (rch_mono mono n a f hn) new⟩
        rcases q1 with rfl | q1
        · exact s1
        · obtain ⟨n, hn⟩ := (htr g b).mp q1
          obtain ⟨m, hm⟩ := s1
          exact ⟨_, rch_app m a g n b hm (rch_mono mono n g b hn)⟩
    · rintro ⟨n, hn⟩
      have one : ∀ a b, (told a b || (decide (a = f) && decide (b = g))) = true → pre τ f g a b = true := by
        intro a b q
        simp only [Bool.or_eq_true, Bool.and_eq_true, decide_eq_true_eq] at q
        rw [pre_iff]
        rcases q with q | ⟨rfl, rfl⟩
        · exact Or.inl ((htr a b).mpr ⟨0, q⟩)
        · exact Or.inr ⟨Or.inl rfl, Or.inl rfl⟩
      have : ∀ n a b, rch (fun a b => told a b || (decide (a = f) && decide (b = g))) n a b → pre τ f g a b = true := by
        intro n
        induction n with
        | zero => intro a b q; exact one a b q
        | succ n ih => intro a b ⟨k, q1, q2⟩; exact tr' a k b (one a k q1) (ih k b q2)
      exact this n a b hn
theorem s_prefer {τ : SU} (ho : okS τ) {X : Mem} (h : RXS X 1 τ) {f g : Nat} (hf : f < suF τ) (hg : g < suF τ) {K : Mem → Prop} (hK : ∀ X', (∀ p, p ≠ 10 → X'.1 p = X.1 p) → RXS X' 1 (suPre τ f g) → K X') : f_X2_prefer 1 (nI f) (nI g) X K := by
  intro G14 G37 G48 h14 h37 h48
  have h6 : suF τ ≤ 6 := ho.2.2.1
  refine ⟨v_in (by omega) (by omega), fun y2 e2 => ?_⟩
  rw [q_cl (by omega)] at e2
  have e2 : y2 = (X.1 10 f) ||| (1 <<< (nI f &&& 31)) := e2
  have yb : ∀ a, a < 32 → bt y2 a = (decide (a = f) || suP τ a f) := by
    intro a ha
    rw [e2, bt_on (by omega) ha]
    have := h.2.2.2.2.2.2 f (by omega) a ha
    have : bt (X.1 10 f) a = suP τ a f := this
    rw [this]
    by_cases z : a = f <;> simp [z]
  have key := lp_up (fun t (R : Nat → Int32) => G14 (nI g) y2 (nI t) (wA X 10 R)) (fun t R => ∀ b, b < 6 → ∀ a, a < 32 → bt (R b) a = if b < t then pre τ f g a b else suP τ a b) 6
    (fun R hR => by
      refine h14 _ _ _ _ ⟨fun _ => hK _ (fun p hp => wA_ne hp) ?_, fun c => absurd (Int32.le_refl 6) c⟩
      refine RXS_P h6 h (fun p _ hp => wA_ne (by omega)) (fun b hb a ha => ?_)
      rw [wA_eq, hR b hb a ha, if_pos hb])
    (fun t R ht hR ih => by
      have hRt : ∀ a, a < 32 → bt (R t) a = suP τ a t := fun a ha => by rw [hR t ht a ha, if_neg (by omega)]
      have done : ∀ S : Nat → Int32, (∀ b, b ≠ t → S b = R b) → (∀ a, a < 32 → bt (S t) a = pre τ f g a t) → G48 (nI g) y2 (nI t) (wA X 10 S) := by
        intro S hS hSt
        refine h48 _ _ _ _ (fun y e => ?_)
        rw [e, nI_1]
        refine ih S (fun b hb a ha => ?_)
        by_cases z : b = t
        · rw [if_pos (by omega), z]; exact hSt a ha
        · rw [hS b z, hR b hb a ha]
          by_cases w : b < t
          · rw [if_pos w, if_pos (by omega)]
          · rw [if_neg w, if_neg (by omega)]
      have up : (t = g ∨ suP τ g t = true) → G37 (nI g) y2 (nI t) (wA X 10 R) := by
        intro hq
        refine h37 _ _ _ _ ⟨v_in ht (by omega), v_in ht (by omega), fun μ10 e10 => ?_⟩
        have e10 : μ10 = wA X 10 (upd R t (R t ||| y2)) := by
          rw [e10, q_cl (by omega), show (1+9) = 10 from rfl, wI_wA, wA_eq]
        rw [e10]
        refine done _ (fun b hb => by rw [upd_at, if_neg hb]) (fun a ha => ?_)
        rw [upd_at, if_pos rfl, b_or, hRt a ha, yb a ha]
        unfold pre
        have : (decide (t = g) || suP τ g t) = true := by simpa using hq
        rw [this, Bool.true_and]
      refine h14 _ _ _ _ ⟨fun c => absurd c (by show ¬ nI 6 ≤ nI t; rw [q_le (by omega) (by omega)]; omega), fun _ => ⟨fun c => ?_, fun c => ?_⟩⟩
      · rw [q_eq (by omega) (by omega)] at c
        exact up (Or.inl c)
      · rw [q_eq (by omega) (by omega)] at c
        refine ⟨v_in ht (by omega), ?_⟩
        rw [q_cl (by omega)]
        refine s_hasBit (by omega) ?_
        rw [show (wA X 10 R).1 (1+9) t = R t from congrFun (wA_eq X 10 R) t, hRt g (by omega)]
        cases hp : suP τ g t with
        | true => exact ⟨isB_1, t1 (up (Or.inr hp))⟩
        | false =>
          refine ⟨isB_0, t0 (done R (fun _ _ => rfl) (fun a ha => ?_))⟩
          rw [hRt a ha]
          unfold pre
          rw [hp]
          simp [c])
    0 (X.1 10) (by omega) (fun b hb a ha => by rw [if_neg (by omega)]; exact h.2.2.2.2.2.2 b hb a ha)
  rw [wA_self] at key
  exact key
/-! counting them -/
def bcF (x : Int32) : Int32 :=
  let y1 : Int32 := x - (((x.toUInt32 >>> ((1 : Int32).toUInt32 &&& Int32.toUInt32 31)).toInt32) &&& 1431655765)
  let y2 : Int32 := (y1 &&& 858993459) + (((y1.toUInt32 >>> ((2 : Int32).toUInt32 &&& Int32.toUInt32 31)).toInt32) &&& 858993459)
  let y3 : Int32 := (y2 + ((y2.toUInt32 >>> ((4 : Int32).toUInt32 &&& Int32.toUInt32 31)).toInt32)) &&& 252645135
  let y4 : Int32 := y3 + ((y3.toUInt32 >>> ((8 : Int32).toUInt32 &&& Int32.toUInt32 31)).toInt32)
  let y5 : Int32 := y4 + ((y4.toUInt32 >>> ((16 : Int32).toUInt32 &&& Int32.toUInt32 31)).toInt32)
  y5 &&& 63
theorem bc_64 : ∀ m, m < 64 → bcF (nI m) = nI (cntB (bt (nI m)) 6) := by decide +kernel
theorem b_63 : ∀ i, i < 32 → bt 63 i = decide (i < 6) := by decide +kernel
theorem low_64 {x : Int32} (h : ∀ i, 6 ≤ i → i < 32 → bt x i = false) : ∃ m, m < 64 ∧ x = nI m := by
  have e : x = x &&& 63 := b_ext (fun i hi => by
    rw [b_and, b_63 i hi]
    by_cases z : i < 6
    · simp [z]
    · rw [h i (by omega) hi]; simp)
  obtain ⟨j, hj, ej⟩ := pk_andE x (m := 63) 6 (by decide)
  exact ⟨j, hj, by rw [e, ej]⟩
theorem s_bits {x : Int32} (h : ∀ i, 6 ≤ i → i < 32 → bt x i = false) {μ : Mem} {K : Int32 → Mem → Prop} (hK : K (nI (cntB (bt x) 6)) μ) : f_J6_bitCount_0f7a4 x μ K := by
  obtain ⟨m, hm, rfl⟩ := low_64 h
  rw [← bc_64 m hm] at hK
  intro y1 e1 y2 e2 y3 e3 y4 e4 y5 e5
  rw [e5, e4, e3, e2, e1]
  exact hK
theorem s_cntX {τ : SU} (ho : okS τ) {X : Mem} (h : RXS X 1 τ) {K : Int32 → Mem → Prop} (hK : K (nI (sumN (fun b => cntB (fun a => suP τ a b) 6) 6)) X) : f_X2_countPriorities 1 X K := by
  intro G4 h4
  have h6 : suF τ ≤ 6 := ho.2.2.1
  exact lp_up (fun t (s : Int32) => G4 s (nI t) X) (fun t s => s = nI (sumN (fun b => cntB (fun a => suP τ a b) 6) t)) 6
    (fun s hs => h4 _ _ _ ⟨fun _ => by rw [hs]; exact hK, fun c => absurd (Int32.le_refl 6) c⟩)
    (fun t s ht hs ih => by
      have hb := h.2.2.2.2.2.2 t ht
      refine h4 _ _ _ ⟨fun c => absurd c (by show ¬ nI 6 ≤ nI t; rw [q_le (by omega) (by omega)]; omega), fun _ => ⟨v_in ht (by omega), ?_⟩⟩
      rw [q_cl (by omega)]
      refine s_bits (fun i h1 h2 => ?_) (fun y e y' e' => ?_)
      · rw [hb i h2]
        cases hq : suP τ i t with
        | false => rfl
        | true => have := (ho.2.2.2.2.2.2.1 i t hq).1; omega
      · rw [e', nI_1]
        apply ih
        rw [e, hs, nI_add]
        congr 1
        show _ = sumN _ t + cntB (fun a => suP τ a t) 6
        rw [cntB_congr 6 (fun a ha => hb a (by omega))])
    0 0 (by omega) rfl
theorem cnt_split (g : Nat → Bool) (a : Nat) : ∀ r, cntB g (a + r) = cntB g a + cntB (fun c => g (a + c)) r
  | 0 => rfl
  | r + 1 => by
    show cntB g (a + r) + (if g (a + r) then 1 else 0) = cntB g a + (cntB (fun c => g (a + c)) r + (if g (a + r) then 1 else 0))
    rw [cnt_split g a r]
    omega
theorem cnt_36 (h : Nat → Nat → Bool) : ∀ a, cntB (fun i => h (i/6) (i%6)) (6*a) = sumN (fun a => cntB (h a) 6) a
  | 0 => rfl
  | a + 1 => by
    rw [show 6*(a+1) = 6*a+6 by omega, cnt_split, cnt_36 h a]
    show _ = sumN _ a + cntB (h a) 6
    rw [cntB_congr 6 (fun c hc => show h ((6*a+c)/6) ((6*a+c)%6) = h a c by rw [show (6*a+c)/6 = a by omega, show (6*a+c)%6 = c by omega])]
theorem cnt_both (h : Nat → Nat → Bool) : cntB (fun i => h (i/6) (i%6)) 36 = sumN (fun b => cntB (fun a => h a b) 6) 6 := by
  have e1 : sumN (fun a => cntB (h a) 6) 6 = sumN (fun a => sumN (fun b => if h a b then 1 else 0) 6) 6 := sum_cg _ (fun c hc => cnt_sum _ _)
  have e2 : sumN (fun b => cntB (fun a => h a b) 6) 6 = sumN (fun b => sumN (fun a => if h a b then 1 else 0) 6) 6 := sum_cg _ (fun c hc => cnt_sum _ _)
  rw [cnt_36 h 6, e1, e2, sum_swap]
theorem s_aheads {τ : SU} (ho : okS τ) {M : Mem} (h : RMS M 1 0 τ) {K : Int32 → Mem → Prop} (hK : ∀ M', (∀ p, p ≠ 17 → M'.1 p = M.1 p) → BH τ M' → K (nI (sumN (fun b => cntB (fun a => suP τ a b) 6) 6)) M') : f_X6_aheads M K := by
  intro G8 G35 h8 h35
  refine s_findBehind ho h (fun M' e' bh => ?_)
  exact lp_up (fun t (s : Int32) => G8 s (nI t) M') (fun t s => s = nI (cntB (fun i => suP τ (i/6) (i%6)) t)) 36
    (fun s hs => h8 _ _ _ ⟨fun _ => by rw [hs, cnt_both]; exact hK M' e' bh, fun c => absurd (Int32.le_refl 36) c⟩)
    (fun t s ht hs ih => by
      refine h8 _ _ _ ⟨fun c => absurd c (by show ¬ nI 36 ≤ nI t; rw [q_le (by omega) (by omega)]; omega), fun _ => ?_⟩
      have e1 : (nI t / 6 : Int32) = nI (t/6) := pk_div (d := 6) (by omega) (by omega) (by omega)
      have e2 : (nI t - nI t / 6 * 6 : Int32) = nI (t%6) := pk_rem (d := 6) (by omega) (by omega) (by omega)
      rw [e2, e1]
      have step : ∀ z0 : Int32, s + z0 = nI (cntB (fun i => suP τ (i/6) (i%6)) (t+1)) → G35 (nI t) z0 s M' := fun z0 hz => h35 _ _ _ _ (fun y e y' e' => by rw [e', nI_1]; exact ih y (by rw [e, hz]))
      refine s_isAhead ho bh (by omega) (by omega) ?_
      cases hq : suP τ (t/6) (t%6) with
      | true => exact t1 (step 1 (by rw [hs, nI_1, cntB_t (g := fun i => suP τ (i/6) (i%6)) (k := t) hq]))
      | false => exact t0 (step 0 (by rw [hs, cntB_f (g := fun i => suP τ (i/6) (i%6)) (k := t) hq]; show nI _ + nI 0 = _; rw [nI_add]; rfl)))
    0 0 (by omega) rfl
