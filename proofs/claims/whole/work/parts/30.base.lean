/-! ===== Int32 by its bits: bt x i ===== -/
def bt (x : Int32) (i : Nat) : Bool := x.toBitVec.getLsbD i
theorem b_ext {x y : Int32} (h : ∀ i, i < 32 → bt x i = bt y i) : x = y := Int32.toBitVec_inj.mp (BitVec.eq_of_getLsbD_eq (fun i hi => h i hi))
theorem b_or (x y : Int32) (i : Nat) : bt (x ||| y) i = (bt x i || bt y i) := by unfold bt; rw [Int32.toBitVec_or, BitVec.getLsbD_or]
theorem b_and (x y : Int32) (i : Nat) : bt (x &&& y) i = (bt x i && bt y i) := by unfold bt; rw [Int32.toBitVec_and, BitVec.getLsbD_and]
theorem b_xor (x y : Int32) (i : Nat) : bt (x ^^^ y) i = (bt x i ^^ bt y i) := by unfold bt; rw [Int32.toBitVec_xor, BitVec.getLsbD_xor]
theorem b_big {x : Int32} {i : Nat} (h : 32 ≤ i) : bt x i = false := BitVec.getLsbD_of_ge _ _ h
theorem b_255 (i : Nat) : bt 255 i = decide (i < 8) := by
  rcases Nat.lt_or_ge i 32 with h | h
  · exact (by decide +kernel : ∀ i, i < 32 → bt 255 i = decide (i < 8)) i h
  · rw [b_big h, decide_eq_false (by omega)]
theorem b_65535 (i : Nat) : bt 65535 i = decide (i < 16) := by
  rcases Nat.lt_or_ge i 32 with h | h
  · exact (by decide +kernel : ∀ i, i < 32 → bt 65535 i = decide (i < 16)) i h
  · rw [b_big h, decide_eq_false (by omega)]
theorem b_m1 : ∀ i, i < 32 → bt (-1) i = true := by decide +kernel
theorem b_0 (i : Nat) : bt 0 i = false := BitVec.getLsbD_zero
theorem s_l : ∀ n, n < 32 → ((nI n &&& 31).toBitVec.smod 32).toNat = n := by decide +kernel
theorem s_u : ∀ n, n < 32 → (((nI n).toUInt32 &&& Int32.toUInt32 31).toBitVec % 32).toNat = n := by decide +kernel
theorem b_shl (n : Nat) (hn : n < 32) (x : Int32) {i : Nat} (hi : i < 32) : bt (x <<< (nI n &&& 31)) i = (decide (n ≤ i) && bt x (i - n)) := by
  unfold bt
  rw [Int32.toBitVec_shiftLeft]
  show (x.toBitVec <<< ((nI n &&& 31).toBitVec.smod 32).toNat).getLsbD i = _
  rw [s_l n hn, BitVec.getLsbD_shiftLeft]
  rcases Nat.lt_or_ge i n with h | h
  · simp [h, Nat.not_le.mpr h]
  · simp [hi, h, Nat.not_lt.mpr h]
theorem b_ushr (n : Nat) (hn : n < 32) (x : Int32) (i : Nat) : bt ((x.toUInt32 >>> ((nI n).toUInt32 &&& Int32.toUInt32 31)).toInt32) i = bt x (n + i) := by
  show (x.toUInt32 >>> ((nI n).toUInt32 &&& Int32.toUInt32 31)).toBitVec.getLsbD i = x.toUInt32.toBitVec.getLsbD (n + i)
  rw [UInt32.toBitVec_shiftRight]
  show (x.toUInt32.toBitVec >>> (((nI n).toUInt32 &&& Int32.toUInt32 31).toBitVec % 32).toNat).getLsbD i = _
  rw [s_u n hn, BitVec.getLsbD_ushiftRight]
theorem b_sshr (n : Nat) (hn : n < 32) (x : Int32) {i : Nat} (hi : i < 32) : bt (x >>> (nI n &&& 31)) i = if n + i < 32 then bt x (n + i) else bt x 31 := by
  unfold bt
  rw [Int32.toBitVec_shiftRight]
  show (x.toBitVec.sshiftRight ((nI n &&& 31).toBitVec.smod 32).toNat).getLsbD i = _
  rw [s_l n hn, BitVec.getLsbD_sshiftRight, BitVec.msb_eq_getLsbD_last]
  simp [hi]
theorem b_shl8 (x : Int32) {i : Nat} (hi : i < 32) : bt (x <<< ((8 : Int32) &&& 31)) i = (decide (8 ≤ i) && bt x (i - 8)) := b_shl 8 (by omega) x hi
theorem b_shl16 (x : Int32) {i : Nat} (hi : i < 32) : bt (x <<< ((16 : Int32) &&& 31)) i = (decide (16 ≤ i) && bt x (i - 16)) := b_shl 16 (by omega) x hi
theorem b_shl24 (x : Int32) {i : Nat} (hi : i < 32) : bt (x <<< ((24 : Int32) &&& 31)) i = (decide (24 ≤ i) && bt x (i - 24)) := b_shl 24 (by omega) x hi
theorem b_sshr8 (x : Int32) {i : Nat} (hi : i < 32) : bt (x >>> ((8 : Int32) &&& 31)) i = if 8 + i < 32 then bt x (8 + i) else bt x 31 := b_sshr 8 (by omega) x hi
/-! numbers, loops, memory -/
theorem lp_up {σ : Type} (W : Nat → σ → Prop) (I : Nat → σ → Prop) (N : Nat) (he : ∀ s, I N s → W N s) (hs : ∀ k s, k < N → I k s → (∀ s', I (k + 1) s' → W (k + 1) s') → W k s) (k : Nat) (s : σ) (hk : k ≤ N) (h : I k s) : W k s := by
  obtain ⟨j, hj⟩ : ∃ j, j = N - k := ⟨_, rfl⟩
  induction j generalizing k s with
  | zero =>
    have e : k = N := by omega
    subst e
    exact he s h
  | succ j ih => exact hs k s (by omega) h (fun s' h' => ih (k + 1) s' (by omega) h' (by omega))
theorem q_le {a b : Nat} (ha : a < 2147483648) (hb : b < 2147483648) : (nI a ≤ nI b) = (a ≤ b) := propext (nI_leI ha hb)
theorem q_lt {a b : Nat} (ha : a < 2147483648) (hb : b < 2147483648) : (nI a < nI b) = (a < b) := propext (nI_ltI ha hb)
theorem q_eq {a b : Nat} (ha : a < 2147483648) (hb : b < 2147483648) : (nI a = nI b) = (a = b) := propext (nI_eq ha hb)
theorem q_in {a n : Nat} (ha : a < 2147483648) : vp_in (nI a) n = (a < n) := by
  apply propext
  unfold vp_in
  rw [nI_clamp (by simpa using ha)]
  constructor
  · intro h
    rcases Nat.lt_or_ge a n with q | q
    · exact q
    · exact absurd (Or.inr q) h
  · intro h q
    rcases q with q | q
    · exact nI_pos (by simpa using ha) q
    · omega
theorem q_cl {a : Nat} (ha : a < 2147483648) : (nI a).toNatClampNeg = a := nI_clamp (by simpa using ha)
theorem q_in' {x : Int32} {n : Nat} (hn : n < 2147483648) (h : vp_in x n) : ∃ j, j < n ∧ x = nI j := vp_in_of h (by simpa using hn)
theorem q_m1 (a : Nat) (ha : a < 2147483648) : (nI a = (-1)) = False := by
  apply propext
  constructor
  · intro h
    have h1 := congrArg Int32.toInt h
    rw [nI_toInt (by simpa using ha)] at h1
    have h2 : (-1 : Int32).toInt = -1 := by decide
    rw [h2] at h1
    omega
  · exact False.elim
theorem q_m2 (a : Nat) (ha : a < 2147483648) : (nI a = (-2)) = False := by
  apply propext
  constructor
  · intro h
    have h1 := congrArg Int32.toInt h
    rw [nI_toInt (by simpa using ha)] at h1
    have h2 : (-2 : Int32).toInt = -2 := by decide
    rw [h2] at h1
    omega
  · exact False.elim
/-- an argument below n, or not -/
theorem q_arg (x : Int32) (n : Nat) (hn : n < 2147483648) : (∃ j, j < n ∧ x = nI j) ∨ (x < 0 ∨ nI n ≤ x) := by
  rcases pk_ix x (by simpa using hn) with h | h | h
  · exact Or.inr (Or.inl h)
  · exact Or.inr (Or.inr h)
  · exact Or.inl h
theorem q_neg {a : Nat} (ha : a < 2147483648) : (nI a < 0) = False := propext ⟨fun h => nI_pos (by simpa using ha) h, False.elim⟩
theorem q_nn {a : Nat} (ha : a < 2147483648) : (0 ≤ nI a) = True := propext ⟨fun _ => trivial, fun _ => nI_pos' (by simpa using ha)⟩
theorem wI_wA (μ : Mem) (p : Nat) (f : Nat → Int32) (k : Nat) (v : Int32) : wI (wA μ p f) p k v = wA μ p (upd f k v) := by
  unfold wI
  rw [wA_eq]
  unfold wA
  congr 1
  funext q
  by_cases h : q = p <;> simp [h]
theorem wA_self (μ : Mem) (p : Nat) : wA μ p (μ.1 p) = μ := by
  unfold wA
  apply Prod.ext
  · funext q
    by_cases h : q = p
    · subst h; simp
    · simp [h]
  · rfl
theorem wA_wA (μ : Mem) (p : Nat) (f g : Nat → Int32) : wA (wA μ p f) p g = wA μ p g := by
  unfold wA
  congr 1
  funext q
  by_cases h : q = p <;> simp [h]
theorem wI_at (μ : Mem) (p k : Nat) (v : Int32) (q j : Nat) : (wI μ p k v).1 q j = if q = p ∧ j = k then v else μ.1 q j := by
  unfold wI
  by_cases h : q = p
  · subst h
    rw [wA_eq]
    unfold upd
    by_cases h2 : j = k <;> simp [h2]
  · rw [wA_ne h]
    simp [h]
theorem wI_row {μ : Mem} {p k : Nat} {v : Int32} {q : Nat} (h : q ≠ p) : (wI μ p k v).1 q = μ.1 q := wA_ne h
theorem wI_same (μ : Mem) (p k : Nat) (v : Int32) : (wI μ p k v).1 p = upd (μ.1 p) k v := wA_eq _ _ _
theorem wI_2 (μ : Mem) (p k : Nat) (v : Int32) : (wI μ p k v).2 = μ.2 := rfl
theorem upd_at (f : Nat → Int32) (k : Nat) (x : Int32) (j : Nat) : upd f k x j = if j = k then x else f j := rfl
theorem isB_0 : isB 0 := rfl
theorem isB_1 : isB 1 := rfl
theorem z_0 : vp_nar .boolean 0 = 0 := rfl
theorem z_1 : vp_nar .boolean 1 = 1 := rfl
/-- a set of bits, one asked -/
theorem hb_iff (x : Int32) {f : Nat} (hf : f < 31) : ((x >>> (nI f &&& 31)) &&& 1 = 1) ↔ bt x f = true := by
  have e : (x >>> (nI f &&& 31)) &&& 1 = if bt x f then 1 else 0 := by
    apply b_ext
    intro i hi
    rw [b_and, b_sshr f (by omega) x hi]
    have h1 : bt 1 i = decide (i = 0) := (by decide +kernel : ∀ i, i < 32 → bt 1 i = decide (i = 0)) i hi
    rw [h1]
    by_cases h0 : i = 0
    · subst h0
      rw [if_pos (by omega)]
      cases hb : bt x (f + 0) <;> rw [Nat.add_zero] at hb <;> simp [hb, b_0, h1]
    · cases hb : bt x f <;> simp [h0, b_0, h1]
  rw [e]
  cases bt x f <;> decide
theorem s_hasBit {x : Int32} {f : Nat} (hf : f < 31) {μ : Mem} {K : Int32 → Mem → Prop} (h : K (if bt x f then 1 else 0) μ) : f_X5_hasBit x (nI f) μ K := by
  unfold f_X5_hasBit
  constructor
  · intro c
    have : bt x f = false := by
      cases hb : bt x f
      · rfl
      · exact absurd ((hb_iff x hf).mpr hb) c
    rw [this] at h
    exact h
  · intro c
    rw [(hb_iff x hf).mp c] at h
    exact h
theorem s_fill (p n : Nat) (v : Int32) (μ : Mem) (K : Mem → Prop) (hn : n < 2147483648) (hK : K (wA μ p (fun c => if c < n then v else μ.1 p c))) : f_J7_fill_53178 p n v μ K := by
  intro G5 h5 y1 ey1
  subst ey1
  have key : ∀ k s, k ≤ n → s = wA μ p (fun c => if c < k then v else μ.1 p c) → G5 v (nI k) (nI n) s := by
    intro k s hk hs
    refine lp_up (fun k (s : Mem) => G5 v (nI k) (nI n) s) (fun k s => s = wA μ p (fun c => if c < k then v else μ.1 p c)) n ?_ ?_ k s hk hs
    · intro s hs
      refine h5 _ _ _ _ ⟨fun _ => ?_, fun c => absurd (by rw [q_le hn hn]; exact Nat.le_refl n) c⟩
      rw [hs]
      exact hK
    · intro k s hk hs ih
      refine h5 _ _ _ _ ⟨fun c => absurd c (by rw [q_le (by omega) (by omega)]; omega), fun _ => ⟨by rw [q_in (by omega)]; exact hk, ?_⟩⟩
      intro μ4 e4 y5 e5
      rw [e5, nI_1]
      apply ih
      rw [e4, hs, q_cl (by omega), wI_wA]
      congr 1
      funext c
      rw [upd_at]
      by_cases h1 : c = k
      · subst h1
        simp
      · by_cases h2 : c < k
        · simp [h1, h2, Nat.lt_succ_of_lt h2]
        · simp [h1, h2, show ¬ c < k + 1 by omega]
  have := key 0 μ (Nat.zero_le n) (by simp [wA_self])
  exact this
theorem s_putOn (p0 p1 p2 : Nat) (μ : Mem) (K : Mem → Prop) (hne : p1 ≠ p2) (hK : K (wA μ p2 (fun c => if c < 32 then (if μ.1 p1 c = -2 then μ.1 p0 c else μ.1 p1 c) else μ.1 p2 c))) : f_X5_putOn p0 p1 p2 μ K := by
  intro G2 G27 h2 h27
  have key : ∀ k s, k ≤ 32 → s = wA μ p2 (fun c => if c < k then (if μ.1 p1 c = -2 then μ.1 p0 c else μ.1 p1 c) else μ.1 p2 c) → G2 (nI k) s := by
    intro k s hk hs
    refine lp_up (fun k (s : Mem) => G2 (nI k) s) (fun k s => s = wA μ p2 (fun c => if c < k then (if μ.1 p1 c = -2 then μ.1 p0 c else μ.1 p1 c) else μ.1 p2 c)) 32 ?_ ?_ k s hk hs
    · intro s hs
      refine h2 _ _ ⟨fun _ => ?_, fun c => absurd (Int32.le_refl 32) c⟩
      rw [hs]
      exact hK
    · intro k s hk hs ih
      have hc : ¬ (32 : Int32) ≤ nI k := by
        show ¬ nI 32 ≤ nI k
        rw [q_le (by omega) (by omega)]
        omega
      have e1 : s.1 p1 = μ.1 p1 := by rw [hs, wA_ne hne]
      have e0 : s.1 p0 k = μ.1 p0 k := by
        by_cases h : p0 = p2
        · rw [h, hs, wA_eq]
          simp
        · rw [hs, wA_ne h]
      have hi : vp_in (nI k) 32 := by rw [q_in (by omega)]; exact hk
      have fin : ∀ v, v = (if μ.1 p1 k = -2 then μ.1 p0 k else μ.1 p1 k) → G27 (nI k) v (nI k) s := by
        intro v hv
        refine h27 _ _ _ _ ⟨hi, ?_⟩
        intro μ7 e7 y8 e8
        rw [e8, nI_1]
        apply ih
        rw [e7, hs, q_cl (by omega), wI_wA]
        congr 1
        funext c
        rw [upd_at]
        by_cases h1 : c = k
        · subst h1
          simp [hv]
        · by_cases h3 : c < k
          · simp [h1, h3, Nat.lt_succ_of_lt h3]
          · simp [h1, h3, show ¬ c < k + 1 by omega]
      refine h2 _ _ ⟨fun c => absurd c hc, fun _ => ⟨hi, ?_⟩⟩
      rw [q_cl (by omega), e1, e0]
      refine ⟨fun c => ⟨hi, fin _ (by rw [if_neg c])⟩, fun c => ⟨hi, fin _ (by rw [if_pos c])⟩⟩
  have := key 0 μ (by omega) (by simp [wA_self])
  exact this
theorem s_copyRow (p0 p1 : Nat) (μ : Mem) (K : Mem → Prop) (hK : K (wA μ p1 (fun c => if c < 32 then μ.1 p0 c else μ.1 p1 c))) : f_X5_copyRow p0 p1 μ K := by
  refine ⟨⟨⟨by decide, by decide, by decide⟩, by decide, by decide⟩, ?_⟩
  intro μ2 e
  have : (va_cpy (μ.1 p0) (μ.1 p1) (0 : Int32).toNatClampNeg (0 : Int32).toNatClampNeg (32 : Int32).toNatClampNeg) = (fun c => if c < 32 then μ.1 p0 c else μ.1 p1 c) := by
    have e0 : (0 : Int32).toNatClampNeg = 0 := by decide
    have e32 : (32 : Int32).toNatClampNeg = 32 := by decide
    rw [e0, e32]
    funext c
    by_cases h : c < 32
    · rw [pk_cpy_in (by omega) (by omega), if_pos h, show 0 + (c - 0) = c by omega]
    · rw [pk_cpy_out (by omega), if_neg h]
  rw [e, this]
  exact hK
/-- in range -/
def inR (x : Int32) (n : Nat) : Prop := ∃ j, j < n ∧ x = nI j
theorem inR_no {x : Int32} {n : Nat} (hn : n < 2147483648) (h : ¬ inR x n) : x < 0 ∨ nI n ≤ x := (q_arg x n hn).resolve_left h
theorem inR_lt {x : Int32} {n : Nat} (hn : n < 2147483648) (h : inR x n) : ¬ x < 0 ∧ ¬ nI n ≤ x ∧ 0 ≤ x ∧ x < nI n := by
  obtain ⟨j, hj, rfl⟩ := h
  refine ⟨nI_pos (by omega), ?_, nI_pos' (by omega), ?_⟩
  · rw [q_le hn (by omega)]; omega
  · rw [q_lt (by omega) hn]; exact hj
theorem inR_iff {x : Int32} {n : Nat} (hn : n < 2147483648) : inR x n ↔ ¬ x < 0 ∧ ¬ nI n ≤ x := ⟨fun h => ⟨(inR_lt hn h).1, (inR_lt hn h).2.1⟩, fun h => by
  rcases q_arg x n hn with q | q | q
  · exact q
  · exact absurd q h.1
  · exact absurd q h.2⟩
theorem s_hasState {B : Nat} {x : Int32} {μ : Mem} {K : Int32 → Mem → Prop} {n : Nat} (hn : n < 2147483648) (e : μ.1 B 0 = nI n) (h1 : inR x n → K 1 μ) (h0 : ¬ inR x n → K 0 μ) : f_X2_hasState B x μ K := by
  unfold f_X2_hasState
  rw [e]
  refine ⟨fun c => h0 (fun q => (inR_lt hn q).1 c), fun c => ⟨fun d => h0 (fun q => (inR_lt hn q).2.1 d), fun d => h1 ((inR_iff hn).mpr ⟨c, d⟩)⟩⟩
theorem s_hasLetter {B : Nat} {x : Int32} {μ : Mem} {K : Int32 → Mem → Prop} {n : Nat} (hn : n < 2147483648) (e : μ.1 B 1 = nI n) (h1 : inR x n → K 1 μ) (h0 : ¬ inR x n → K 0 μ) : f_X2_hasLetter B x μ K := by
  unfold f_X2_hasLetter
  rw [e]
  refine ⟨fun c => h0 (fun q => (inR_lt hn q).1 c), fun c => ⟨fun d => h0 (fun q => (inR_lt hn q).2.1 d), fun d => h1 ((inR_iff hn).mpr ⟨c, d⟩)⟩⟩
theorem s_hasFeature {B : Nat} {x : Int32} {μ : Mem} {K : Int32 → Mem → Prop} {n : Nat} (hn : n < 2147483648) (e : μ.1 B 2 = nI n) (h1 : inR x n → K 1 μ) (h0 : ¬ inR x n → K 0 μ) : f_X2_hasFeature B x μ K := by
  unfold f_X2_hasFeature
  rw [e]
  refine ⟨fun c => h0 (fun q => (inR_lt hn q).1 c), fun c => ⟨fun d => h0 (fun q => (inR_lt hn q).2.1 d), fun d => h1 ((inR_iff hn).mpr ⟨c, d⟩)⟩⟩
theorem t1 {A X : Prop} (a : A) : ((1 : Int32) = 0 → X) ∧ (¬ (1 : Int32) = 0 → A) := ⟨fun c => absurd c (by decide), fun _ => a⟩
theorem t0 {A X : Prop} (a : A) : ((0 : Int32) = 0 → A) ∧ (¬ (0 : Int32) = 0 → X) := ⟨fun _ => a, fun c => absurd rfl c⟩
theorem u1 {A X : Prop} (a : A) : (¬ (1 : Int32) = 0 → A) ∧ ((1 : Int32) = 0 → X) := ⟨fun _ => a, fun c => absurd c (by decide)⟩
theorem u0 {A X : Prop} (a : A) : (¬ (0 : Int32) = 0 → X) ∧ ((0 : Int32) = 0 → A) := ⟨fun c => absurd rfl c, fun _ => a⟩
theorem s_hasCell {B : Nat} {x y : Int32} {μ : Mem} {K : Int32 → Mem → Prop} {n k : Nat} (hn : n < 2147483648) (hk : k < 2147483648) (e : μ.1 B 0 = nI n) (e2 : μ.1 B 1 = nI k) (h1 : inR x n → inR y k → K 1 μ) (h0 : ¬ (inR x n ∧ inR y k) → K 0 μ) : f_X2_hasCell B x y μ K :=
  s_hasState hn e (fun a => t1 (s_hasLetter hk e2 (fun b => t1 (h1 a b)) (fun b => t0 (h0 (fun q => b q.2))))) (fun a => t0 (h0 (fun q => a q.1)))
theorem q_pred {x : Int32} {n : Nat} (hn : n < 2147483648) (h : ¬ x < 0) : (nI n - 1 < x) ↔ nI n ≤ x := by
  have hx : 0 ≤ x.toInt := by
    have := Int32.not_lt.mp h
    simpa using Int32.le_iff_toInt_le.mp this
  have e0 : (nI n).toInt = (n : Int) := nI_toInt (by simpa using hn)
  rw [Int32.lt_iff_toInt_lt, Int32.le_iff_toInt_le, e0]
  cases n with
  | zero =>
    have : (nI 0 - 1).toInt = -1 := by decide
    rw [this]
    omega
  | succ n =>
    rw [nI_pred, nI_toInt (by simp at hn ⊢; omega)]
    omega
theorem s_in {x lo hi : Int32} {μ : Mem} {K : Int32 → Mem → Prop} (h1 : ¬ x < lo → ¬ hi < x → K 1 μ) (h0 : (x < lo ∨ hi < x) → K 0 μ) : f_X6_in x lo hi μ K := ⟨fun c => h0 (Or.inl c), fun c => ⟨fun d => h0 (Or.inr d), fun d => h1 c d⟩⟩
theorem s_inR {x : Int32} {n : Nat} {μ : Mem} {K : Int32 → Mem → Prop} (hn : n < 2147483648) (h1 : inR x n → K 1 μ) (h0 : ¬ inR x n → K 0 μ) : f_X6_in x 0 (nI n - 1) μ K := by
  refine ⟨fun c => h0 (fun q => (inR_lt hn q).1 c), fun c => ⟨fun d => h0 (fun q => (inR_lt hn q).2.1 ((q_pred hn c).mp d)), fun d => h1 ((inR_iff hn).mpr ⟨c, fun q => d ((q_pred hn c).mpr q)⟩)⟩⟩
theorem v_in {a n : Nat} (h : a < n) (ha : a < 2147483648) : vp_in (nI a) n := by rw [q_in ha]; exact h
theorem s_isState {x : Int32} {n : Nat} {μ : Mem} {K : Int32 → Mem → Prop} (hn : n < 2147483648) (e : μ.1 1 0 = nI n) (h1 : inR x n → K 1 μ) (h0 : ¬ inR x n → K 0 μ) : f_X6_isState x μ K := by
  refine ⟨v_in (a := 0) (by decide) (by decide), ?_⟩
  show f_X6_in x 0 (μ.1 1 0 - 1) μ _
  rw [e]
  exact s_inR hn (fun q => ⟨isB_1, h1 q⟩) (fun q => ⟨isB_0, h0 q⟩)
theorem s_isLetter {x : Int32} {n : Nat} {μ : Mem} {K : Int32 → Mem → Prop} (hn : n < 2147483648) (e : μ.1 1 1 = nI n) (h1 : inR x n → K 1 μ) (h0 : ¬ inR x n → K 0 μ) : f_X6_isLetter x μ K := by
  refine ⟨v_in (a := 1) (by decide) (by decide), ?_⟩
  show f_X6_in x 0 (μ.1 1 1 - 1) μ _
  rw [e]
  exact s_inR hn (fun q => ⟨isB_1, h1 q⟩) (fun q => ⟨isB_0, h0 q⟩)
theorem s_isFeature {x : Int32} {n : Nat} {μ : Mem} {K : Int32 → Mem → Prop} (hn : n < 2147483648) (e : μ.1 1 34 = nI n) (h1 : inR x n → K 1 μ) (h0 : ¬ inR x n → K 0 μ) : f_X6_isFeature x μ K := by
  refine ⟨v_in (a := 34) (by decide) (by decide), ?_⟩
  show f_X6_in x 0 (μ.1 1 34 - 1) μ _
  rw [e]
  exact s_inR hn (fun q => ⟨isB_1, h1 q⟩) (fun q => ⟨isB_0, h0 q⟩)
theorem s_isOutput {x : Int32} {μ : Mem} {K : Int32 → Mem → Prop} (h1 : inR x 10 → K 1 μ) (h0 : ¬ inR x 10 → K 0 μ) : f_X5_isOutput x μ K := by
  have e : ∀ x : Int32, ¬ x < 0 → (x ≤ 9 ↔ ¬ nI 10 ≤ x) := fun x hx => by
    have h1 : (9 : Int32).toInt = 9 := by decide
    have h2 : (nI 10).toInt = 10 := by decide
    rw [Int32.le_iff_toInt_le, Int32.le_iff_toInt_le, h1, h2]
    omega
  unfold f_X5_isOutput
  refine ⟨fun c => h0 (fun q => (inR_lt (by decide) q).1 c), fun c => ⟨fun d => ?_, fun d => ?_⟩⟩
  · first
    | exact h1 ((inR_iff (by decide)).mpr ⟨c, (e x c).mp d⟩)
    | exact h0 (fun q => absurd ((e x c).mpr (inR_lt (by decide) q).2.1) (Int32.not_le.mpr d))
  · first
    | exact h0 (fun q => d ((e x c).mpr (inR_lt (by decide) q).2.1))
    | exact h1 ((inR_iff (by decide)).mpr ⟨c, (e x c).mp (Int32.not_lt.mp d)⟩)
theorem s_in09 {x : Int32} {μ : Mem} {K : Int32 → Mem → Prop} (h1 : inR x 10 → K 1 μ) (h0 : ¬ inR x 10 → K 0 μ) : f_X6_in x 0 9 μ K := s_inR (n := 10) (by decide) h1 h0
