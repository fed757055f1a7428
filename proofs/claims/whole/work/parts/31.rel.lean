/-! what both sides keep: a setup (states, letters, features; base; changes; which are on; which is before which) -/
abbrev SU : Type := (Nat × Nat × Nat) × (Nat → Int32) × (Nat → Nat → Int32) × (Nat → Bool) × (Nat → Nat → Bool)
def suN (τ : SU) : Nat := τ.1.1
def suK (τ : SU) : Nat := τ.1.2.1
def suF (τ : SU) : Nat := τ.1.2.2
def suB (τ : SU) : Nat → Int32 := τ.2.1
def suE (τ : SU) : Nat → Nat → Int32 := τ.2.2.1
def suO (τ : SU) : Nat → Bool := τ.2.2.2.1
def suP (τ : SU) : Nat → Nat → Bool := τ.2.2.2.2
/-- an arrow of a machine with n states, or none -/
def okA (n : Nat) (x : Int32) : Prop := x = -1 ∨ ∃ t o, t < n ∧ o < 10 ∧ x = nI (10 * t + o)
def okE (n : Nat) (x : Int32) : Prop := x = -2 ∨ okA n x
def okS (τ : SU) : Prop := (1 ≤ suN τ ∧ suN τ ≤ 8) ∧ (1 ≤ suK τ ∧ suK τ ≤ 4) ∧ suF τ ≤ 6 ∧ (∀ c, c < 32 → okA (suN τ) (suB τ c)) ∧ (∀ f, f < suF τ → ∀ c, c < 32 → okE (suN τ) (suE τ f c)) ∧ (∀ f, suF τ ≤ f → suO τ f = false) ∧ (∀ f g, suP τ f g = true → f < suF τ ∧ g < suF τ) ∧ (∀ f g h, suP τ f g = true → suP τ g h = true → suP τ f h = true) ∧ (∀ f, suP τ f f = false)
/-- the class's setup at place B -/
def RXS (X : Mem) (B : Nat) (τ : SU) : Prop := X.1 B 0 = nI (suN τ) ∧ X.1 B 1 = nI (suK τ) ∧ X.1 B 2 = nI (suF τ) ∧ (∀ f, f < 32 → bt (X.1 B 3) f = suO τ f) ∧ (∀ c, c < 32 → X.1 (B+1) c = suB τ c) ∧ (∀ f, f < suF τ → ∀ c, c < 32 → X.1 (B+3+f) c = suE τ f c) ∧ (∀ g, g < 6 → ∀ f, f < 32 → bt (X.1 (B+9) g) f = suP τ f g)
/-- a path of told priorities -/
def rch (told : Nat → Nat → Bool) : Nat → Nat → Nat → Prop
  | 0, f, g => told f g = true
  | n + 1, f, g => ∃ h, told f h = true ∧ rch told n h g
def encM (x : Int32) : Int32 := if x = -2 then -1 else if x = -1 then 100 else x
/-- the reference's setup at offset o of the row p -/
def RMS (M : Mem) (p o : Nat) (τ : SU) : Prop := M.1 p o = nI (suN τ) ∧ M.1 p (o+1) = nI (suK τ) ∧ M.1 p (o+34) = nI (suF τ) ∧ (∀ c, c < 32 → M.1 p (o+2+c) = suB τ c) ∧ (∀ f, f < suF τ → M.1 p (o+35+34*f) = if suO τ f then 1 else 0) ∧ (∀ f, f < suF τ → ∀ c, c < 32 → M.1 p (o+35+34*f+1+c) = encM (suE τ f c)) ∧
  ∃ told : Nat → Nat → Bool, (∀ f, f < suF τ → ∀ g, g < 32 → bt (M.1 p (o+35+34*f+33)) g = told f g) ∧ (∀ f g, told f g = true → f < suF τ ∧ g < suF τ) ∧ ∀ f g, suP τ f g = true ↔ ∃ n, rch told n f g
def RS (X : Mem) (B : Nat) (M : Mem) (p o : Nat) (τ : SU) : Prop := okS τ ∧ RXS X B τ ∧ RMS M p o τ
def RW (X M : Mem) (k : Nat) : Prop := ∃ (wl : Nat) (wd : Nat → Nat), wl ≤ 20 ∧ X.1 0 5 = nI wl ∧ M.1 0 4 = nI wl ∧ ∀ i, i < wl → wd i < k ∧ X.1 36 i = nI (wd i) ∧ M.1 4 i = nI (wd i)
def RT (X M : Mem) : Prop := ∃ (tl : Nat) (td : Nat → Nat), tl ≤ 80 ∧ X.1 33 1 = nI tl ∧ M.1 0 6 = nI tl ∧ ∀ i, i < tl → td i < 128 ∧ X.1 34 i = nI (td i) ∧ M.1 5 i = nI (td i)
def RZ (X M : Mem) : Prop := ∀ z, z < 2 → (X.1 32 z = 0 ∧ M.1 3 z = 0) ∨ (X.1 32 z = 1 ∧ M.1 3 z = 1 ∧ ∃ τ, RS X (12+10*z) M 2 (239*z) τ)
/-- WHAT THE LAW KEEPS -/
def RR (X M : Mem) : Prop := ∃ τ, RS X 1 M 1 0 τ ∧ RW X M (suK τ) ∧ RZ X M ∧ RT X M
theorem RXS.fr {X X' : Mem} {B : Nat} {τ : SU} (h : RXS X B τ) (hf : suF τ ≤ 6) (e0 : X'.1 B = X.1 B) (e1 : X'.1 (B+1) = X.1 (B+1)) (e2 : ∀ f, f < 6 → X'.1 (B+3+f) = X.1 (B+3+f)) (e9 : X'.1 (B+9) = X.1 (B+9)) : RXS X' B τ := by
  unfold RXS at h ⊢
  rw [e0, e1, e9]
  exact ⟨h.1, h.2.1, h.2.2.1, h.2.2.2.1, h.2.2.2.2.1, fun f q c hc => by rw [e2 f (by omega)]; exact h.2.2.2.2.2.1 f q c hc, h.2.2.2.2.2.2⟩
theorem RMS.fr {M M' : Mem} {p o : Nat} {τ : SU} (h : RMS M p o τ) (e : M'.1 p = M.1 p) : RMS M' p o τ := by
  unfold RMS at h ⊢
  rw [e]
  exact h
/-- nothing that counts has changed: the class -/
def sX (X X' : Mem) : Prop := (∀ p, p < 33 ∨ p = 34 ∨ p = 36 → X'.1 p = X.1 p) ∧ X'.1 33 1 = X.1 33 1
def sM (M M' : Mem) : Prop := (∀ p, 1 ≤ p → p ≤ 5 → M'.1 p = M.1 p) ∧ M'.1 0 4 = M.1 0 4 ∧ M'.1 0 6 = M.1 0 6
theorem sX.rf (X : Mem) : sX X X := ⟨fun _ _ => rfl, rfl⟩
theorem sM.rf (M : Mem) : sM M M := ⟨fun _ _ _ => rfl, rfl, rfl⟩
theorem sX.tr {X Y Z : Mem} (h1 : sX X Y) (h2 : sX Y Z) : sX X Z := ⟨fun p h => (h2.1 p h).trans (h1.1 p h), h2.2.trans h1.2⟩
theorem sM.tr {X Y Z : Mem} (h1 : sM X Y) (h2 : sM Y Z) : sM X Z := ⟨fun p h g => (h2.1 p h g).trans (h1.1 p h g), h2.2.1.trans h1.2.1, h2.2.2.trans h1.2.2⟩
theorem sX_wA {X Y : Mem} (h : sX X Y) {p : Nat} (hp : 37 ≤ p ∨ p = 35) (f : Nat → Int32) : sX X (wA Y p f) := ⟨fun q hq => by rw [wA_ne (by omega)]; exact h.1 q hq, by rw [wA_ne (by omega)]; exact h.2⟩
theorem sX_wI {X Y : Mem} (h : sX X Y) {p : Nat} (hp : 37 ≤ p ∨ p = 35) (k : Nat) (v : Int32) : sX X (wI Y p k v) := sX_wA h hp _
theorem sX_33 {X Y : Mem} (h : sX X Y) {k : Nat} (hk : k ≠ 1) (v : Int32) : sX X (wI Y 33 k v) := ⟨fun q hq => by rw [wI_row (by omega)]; exact h.1 q hq, by rw [wI_at, if_neg (by omega)]; exact h.2⟩
theorem sX_wB {X Y : Mem} (h : sX X Y) (p : Nat) (f : Nat → Int64) : sX X (wB Y p f) := h
theorem sM_wA {X Y : Mem} (h : sM X Y) {p : Nat} (hp : 6 ≤ p) (f : Nat → Int32) : sM X (wA Y p f) := ⟨fun q h1 h2 => by rw [wA_ne (by omega)]; exact h.1 q h1 h2, by rw [wA_ne (by omega)]; exact h.2.1, by rw [wA_ne (by omega)]; exact h.2.2⟩
theorem sM_wI {X Y : Mem} (h : sM X Y) {p : Nat} (hp : 6 ≤ p) (k : Nat) (v : Int32) : sM X (wI Y p k v) := sM_wA h hp _
theorem sM_0 {X Y : Mem} (h : sM X Y) {k : Nat} (hk : k ≠ 4 ∧ k ≠ 6) (v : Int32) : sM X (wI Y 0 k v) := ⟨fun q h1 h2 => by rw [wI_row (by omega)]; exact h.1 q h1 h2, by rw [wI_at, if_neg (by omega)]; exact h.2.1, by rw [wI_at, if_neg (by omega)]; exact h.2.2⟩
theorem RZ.fr {X M X' M' : Mem} (h : RZ X M) (e : ∀ p, 12 ≤ p → p ≤ 32 → X'.1 p = X.1 p) (e2 : M'.1 2 = M.1 2) (e3 : M'.1 3 = M.1 3) : RZ X' M' := by
  intro z hz
  rw [e 32 (by omega) (by omega), e3]
  rcases h z hz with q | ⟨q1, q2, τ, q3, q4, q5⟩
  · exact Or.inl q
  · refine Or.inr ⟨q1, q2, τ, q3, ?_, q5.fr e2⟩
    exact q4.fr q3.2.2.1 (e _ (by omega) (by omega)) (e _ (by omega) (by omega)) (fun f hf => e _ (by omega) (by omega)) (e _ (by omega) (by omega))
theorem RW.fr {X M X' M' : Mem} {k : Nat} (h : RW X M k) (e0 : X'.1 0 5 = X.1 0 5) (e1 : X'.1 36 = X.1 36) (e2 : M'.1 0 4 = M.1 0 4) (e3 : M'.1 4 = M.1 4) : RW X' M' k := by
  unfold RW at h ⊢
  rw [e0, e1, e2, e3]
  exact h
theorem RT.fr {X M X' M' : Mem} (h : RT X M) (e0 : X'.1 33 1 = X.1 33 1) (e1 : X'.1 34 = X.1 34) (e2 : M'.1 0 6 = M.1 0 6) (e3 : M'.1 5 = M.1 5) : RT X' M' := by
  unfold RT at h ⊢
  rw [e0, e1, e2, e3]
  exact h
theorem RS.fr1 {X M X' M' : Mem} {τ : SU} (h : RS X 1 M 1 0 τ) (e : ∀ p, 1 ≤ p → p ≤ 10 → X'.1 p = X.1 p) (e2 : M'.1 1 = M.1 1) : RS X' 1 M' 1 0 τ := ⟨h.1, h.2.1.fr h.1.2.2.1 (e _ (by omega) (by omega)) (e _ (by omega) (by omega)) (fun f hf => e _ (by omega) (by omega)) (e _ (by omega) (by omega)), h.2.2.fr e2⟩
theorem RR.fr {X M X' M' : Mem} (h : RR X M) (hX : sX X X') (hM : sM M M') : RR X' M' := by
  obtain ⟨τ, h1, h2, h3, h4⟩ := h
  refine ⟨τ, h1.fr1 (fun p a b => hX.1 p (by omega)) (hM.1 1 (by omega) (by omega)), h2.fr (by rw [hX.1 0 (by omega)]) (hX.1 36 (by omega)) hM.2.1 (hM.1 4 (by omega) (by omega)), h3.fr (fun p a b => hX.1 p (by omega)) (hM.1 2 (by omega) (by omega)) (hM.1 3 (by omega) (by omega)), h4.fr hX.2 (hX.1 34 (by omega)) hM.2.2 (hM.1 5 (by omega) (by omega))⟩
theorem p_features : LS_features RR := by
  intro X M h
  refine ⟨v_in (a := 34) (by decide) (by decide), ?_⟩
  obtain ⟨τ, h1, _⟩ := id h
  refine ⟨?_, h⟩
  show X.1 1 2 = M.1 1 34
  rw [h1.2.1.2.2.1, h1.2.2.2.2.1]
/-- counting -/
def cntB (g : Nat → Bool) : Nat → Nat
  | 0 => 0
  | k + 1 => cntB g k + (if g k then 1 else 0)
theorem cntB_le (g : Nat → Bool) : ∀ k, cntB g k ≤ k
  | 0 => Nat.le_refl 0
  | k + 1 => by
    have := cntB_le g k
    unfold cntB
    by_cases h : g k <;> simp [h] <;> omega
theorem cntB_congr {g g' : Nat → Bool} : ∀ k, (∀ c, c < k → g c = g' c) → cntB g k = cntB g' k
  | 0, _ => rfl
  | k + 1, h => by
    unfold cntB
    rw [cntB_congr k (fun c hc => h c (by omega)), h k (by omega)]
theorem cntB_t {g : Nat → Bool} {k : Nat} (h : g k = true) : cntB g (k+1) = cntB g k + 1 := by
  show cntB g k + (if g k then 1 else 0) = _
  rw [h]
  rfl
theorem cntB_f {g : Nat → Bool} {k : Nat} (h : g k = false) : cntB g (k+1) = cntB g k := by
  show cntB g k + (if g k then 1 else 0) = _
  rw [h]
  rfl
theorem s_countEdits {B f : Nat} (hf : f < 6) {μ : Mem} {K : Int32 → Mem → Prop} (hK : K (nI (cntB (fun c => decide (μ.1 (B+3+f) c ≠ -2)) 32)) μ) : f_X2_countEdits B (nI f) μ K := by
  intro G4 G26 h4 h26
  have key := lp_up (fun k (s : Int32) => G4 (nI f) s (nI k) μ) (fun k s => s = nI (cntB (fun c => decide (μ.1 (B+3+f) c ≠ -2)) k)) 32
    (fun s hs => h4 _ _ _ _ ⟨fun _ => by rw [hs]; exact hK, fun c => absurd (Int32.le_refl 32) c⟩)
    (fun k s hk hs ih => by
      have hc : ¬ (32 : Int32) ≤ nI k := by
        show ¬ nI 32 ≤ nI k
        rw [q_le (by omega) (by omega)]
        omega
      have fin : ∀ v, v = nI (cntB (fun c => decide (μ.1 (B+3+f) c ≠ -2)) (k+1)) → G26 (nI f) v (nI k) μ := fun v hv => h26 _ _ _ _ (fun y e => by rw [e, nI_1]; exact ih v hv)
      refine h4 _ _ _ _ ⟨fun c => absurd c hc, fun _ => ⟨v_in hf (by omega), v_in hk (by omega), ?_⟩⟩
      rw [q_cl (by omega), q_cl (by omega)]
      refine ⟨fun c => fin s ?_, fun c y e => fin y ?_⟩
      · rw [hs, cntB_f (by simp [c])]
      · rw [e, hs, nI_1, cntB_t (by simp [c])])
    0 0 (by omega) rfl
  exact key
theorem at_eq (f w : Nat) : (35 + 34 * nI f + nI w : Int32) = nI (35 + 34 * f + w) := by
  show nI 35 + nI 34 * nI f + nI w = _
  rw [pk_mul, nI_add, nI_add]
theorem s_count {f : Nat} (hf : f < 6) {μ : Mem} {K : Int32 → Mem → Prop} (hK : K (nI (cntB (fun c => decide (0 ≤ μ.1 1 (35+34*f+1+c))) 32)) μ) : f_X6_count (nI f) μ K := by
  intro G4 G31 h4 h31
  have key := lp_up (fun k (s : Int32) => G4 (nI f) s (nI k) μ) (fun k s => s = nI (cntB (fun c => decide (0 ≤ μ.1 1 (35+34*f+1+c))) k)) 32
    (fun s hs => h4 _ _ _ _ ⟨fun _ => by rw [hs]; exact hK, fun c => absurd (Int32.le_refl 32) c⟩)
    (fun k s hk hs ih => by
      have hc : ¬ (32 : Int32) ≤ nI k := by
        show ¬ nI 32 ≤ nI k
        rw [q_le (by omega) (by omega)]
        omega
      refine h4 _ _ _ _ ⟨fun c => absurd c hc, fun _ => ?_⟩
      unfold f_X6_at
      have e1 : (1 + nI k : Int32) = nI (1 + k) := by show nI 1 + nI k = _; rw [nI_add]
      rw [e1, at_eq]
      refine ⟨v_in (by omega) (by omega), ?_⟩
      rw [q_cl (by omega), show 35 + 34 * f + (1 + k) = 35 + 34 * f + 1 + k by omega]
      refine ⟨fun c => h31 _ _ _ _ _ (fun y e y2 e2 => ?_), fun c => h31 _ _ _ _ _ (fun y e y2 e2 => ?_)⟩
      · rw [e2, nI_1]
        apply ih
        rw [e, hs, cntB_t (by simp [c]), ← nI_1]
      · rw [e2, nI_1]
        apply ih
        rw [e, hs, cntB_f (by simp [c])]
        show _ + nI 0 = _
        rw [nI_add]
        rfl)
    0 0 (by omega) rfl
  exact key
theorem encM_nn {n : Nat} {x : Int32} (hn : n ≤ 8) (h : okE n x) : (0 ≤ encM x) ↔ x ≠ -2 := by
  unfold encM
  rcases h with h | h | ⟨t, o, ht, ho, h⟩
  · subst h
    decide
  · subst h
    decide
  · subst h
    rw [if_neg (by rw [q_m2 _ (by omega)]; exact id), if_neg (by rw [q_m1 _ (by omega)]; exact id)]
    exact ⟨fun _ => by rw [Ne, q_m2 _ (by omega)]; exact id, fun _ => nI_pos' (by omega)⟩
/-- both count a feature's changes alike -/
theorem count_eq {X M : Mem} {τ : SU} (h : RS X 1 M 1 0 τ) {f : Nat} (hf : f < suF τ) : cntB (fun c => decide (X.1 (1+3+f) c ≠ -2)) 32 = cntB (fun c => decide (0 ≤ M.1 1 (35+34*f+1+c))) 32 := by
  apply cntB_congr
  intro c hc
  have e1 := h.2.1.2.2.2.2.2.1 f hf c hc
  have e2 := h.2.2.2.2.2.2.2.1 f hf c hc
  rw [Nat.zero_add] at e2
  rw [e1, e2, decide_eq_decide]
  exact (encM_nn h.1.1.2 (h.1.2.2.2.2.1 f hf c hc)).symm
theorem p_changes : LS_changes RR := by
  intro X M a1 h
  obtain ⟨τ, h1, h2, h3, h4⟩ := id h
  have hF : suF τ ≤ 6 := h1.1.2.2.1
  have eM : M.1 1 34 = nI (suF τ) := h1.2.2.2.2.1
  refine s_hasFeature (by omega) h1.2.1.2.2.1 (fun q => ?_) (fun q => ?_)
  · refine u1 ?_
    obtain ⟨f, hf, rfl⟩ := id q
    refine s_countEdits (by omega) ?_
    refine s_isFeature (by omega) eM (fun _ => ?_) (fun c => absurd q c)
    refine t1 ?_ 
    exact s_count (by omega) ⟨by rw [count_eq h1 hf], h⟩
  · refine u0 ?_
    refine s_isFeature (by omega) eM (fun c => absurd c q) (fun _ => ?_)
    exact t0 ⟨rfl, h⟩
