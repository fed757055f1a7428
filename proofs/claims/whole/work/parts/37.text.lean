/-! the text: what one change says, and the whole text -/
/-- one change from place p on: the fault's place, or the place behind it, the arrow and what it becomes -/
def chF (tl : Nat) (td : Nat → Nat) (p c : Nat) (v : Int32) : Nat ⊕ (Nat × Nat × Int32) := if p < tl ∧ td p = 59 then .inr (p + 1, c, v) else .inl p
def chg (n k tl : Nat) (td : Nat → Nat) (E : Nat → Int32) (p : Nat) : Nat ⊕ (Nat × Nat × Int32) :=
  if p < tl ∧ 48 ≤ td p ∧ td p < 48 + n then
    if p + 1 < tl ∧ 97 ≤ td (p+1) ∧ td (p+1) < 97 + k ∧ E ((td p - 48) * 4 + (td (p+1) - 97)) = -2 then
      if p + 2 < tl ∧ td (p+2) = 45 then chF tl td (p+3) ((td p - 48) * 4 + (td (p+1) - 97)) (-1) else
      if p + 2 < tl ∧ td (p+2) = 62 then
        if p + 3 < tl ∧ 48 ≤ td (p+3) ∧ td (p+3) < 48 + n then
          if p + 4 < tl ∧ td (p+4) = 47 then
            if p + 5 < tl ∧ 48 ≤ td (p+5) ∧ td (p+5) < 58 then chF tl td (p+6) ((td p - 48) * 4 + (td (p+1) - 97)) (nI (10 * (td (p+3) - 48) + (td (p+5) - 48)))
            else .inl (p+5)
          else .inl (p+4)
        else .inl (p+3)
      else .inl (p+2)
    else .inl (p+1)
  else .inl p
/-- the whole text from place p on -/
def txt (n k tl : Nat) (td : Nat → Nat) : Nat → (Nat → Int32) → Nat → Nat → Nat ⊕ ((Nat → Int32) × Nat)
  | 0, E, _, cnt => .inr (E, cnt)
  | m + 1, E, p, cnt => if tl ≤ p then .inr (E, cnt) else match chg n k tl td E p with
    | .inl q => .inl q
    | .inr (p', c, v) => txt n k tl td m (upd E c v) p' (cnt + 1)
theorem chg_ok {n k tl : Nat} {td : Nat → Nat} {E : Nat → Int32} {p p' c : Nat} {v : Int32} (hn : n ≤ 8) (hk : k ≤ 4) (h : chg n k tl td E p = .inr (p', c, v)) : p < p' ∧ p' ≤ tl ∧ c < 32 ∧ okA n v := by
  have fin : ∀ q, chF tl td q c v = .inr (p', c, v) → q < p' ∧ p' ≤ tl := by
    intro q hq
    unfold chF at hq
    by_cases e : q < tl ∧ td q = 59
    · rw [if_pos e] at hq
      have : q + 1 = p' := congrArg (fun x : Nat × Nat × Int32 => x.1) (Sum.inr.inj hq)
      omega
    · rw [if_neg e] at hq
      cases hq
  have fc : ∀ q c' v', chF tl td q c' v' = .inr (p', c, v) → c' = c ∧ v' = v := by
    intro q c' v' hq
    unfold chF at hq
    by_cases e : q < tl ∧ td q = 59
    · rw [if_pos e] at hq
      have := Sum.inr.inj hq
      exact ⟨congrArg (fun x : Nat × Nat × Int32 => x.2.1) this, congrArg (fun x : Nat × Nat × Int32 => x.2.2) this⟩
    · rw [if_neg e] at hq
      cases hq
  unfold chg at h
  by_cases h0 : p < tl ∧ 48 ≤ td p ∧ td p < 48 + n
  · rw [if_pos h0] at h
    by_cases h1 : p + 1 < tl ∧ 97 ≤ td (p+1) ∧ td (p+1) < 97 + k ∧ E ((td p - 48) * 4 + (td (p+1) - 97)) = -2
    · rw [if_pos h1] at h
      by_cases h2 : p + 2 < tl ∧ td (p+2) = 45
      · rw [if_pos h2] at h
        obtain ⟨e1, e2⟩ := fc _ _ _ h
        rw [e1, e2] at h
        have := fin _ h
        refine ⟨by omega, by omega, by omega, by rw [← e2]; exact Or.inl rfl⟩
      · rw [if_neg h2] at h
        by_cases h3 : p + 2 < tl ∧ td (p+2) = 62
        · rw [if_pos h3] at h
          by_cases h4 : p + 3 < tl ∧ 48 ≤ td (p+3) ∧ td (p+3) < 48 + n
          · rw [if_pos h4] at h
            by_cases h5 : p + 4 < tl ∧ td (p+4) = 47
            · rw [if_pos h5] at h
              by_cases h6 : p + 5 < tl ∧ 48 ≤ td (p+5) ∧ td (p+5) < 58
              · rw [if_pos h6] at h
                obtain ⟨e1, e2⟩ := fc _ _ _ h
                rw [e1, e2] at h
                have := fin _ h
                refine ⟨by omega, by omega, by omega, Or.inr ⟨td (p+3) - 48, td (p+5) - 48, by omega, by omega, e2.symm⟩⟩
              · rw [if_neg h6] at h; cases h
            · rw [if_neg h5] at h; cases h
          · rw [if_neg h4] at h; cases h
        · rw [if_neg h3] at h; cases h
    · rw [if_neg h1] at h; cases h
  · rw [if_neg h0] at h; cases h
theorem txt_ok {n k tl : Nat} {td : Nat → Nat} (hn : n ≤ 8) (hk : k ≤ 4) : ∀ (m : Nat) (E : Nat → Int32) (p cnt : Nat), (∀ c, c < 32 → okE n (E c)) → ∀ E' cnt', txt n k tl td m E p cnt = .inr (E', cnt') → ∀ c, c < 32 → okE n (E' c)
  | 0, E, p, cnt, hE, E', cnt', h => by
    have := congrArg (fun x : (Nat → Int32) × Nat => x.1) (Sum.inr.inj h)
    dsimp only at this
    rw [← this]
    exact hE
  | m + 1, E, p, cnt, hE, E', cnt', h => by
    unfold txt at h
    by_cases e : tl ≤ p
    · rw [if_pos e] at h
      have := congrArg (fun x : (Nat → Int32) × Nat => x.1) (Sum.inr.inj h)
      dsimp only at this
      rw [← this]
      exact hE
    · rw [if_neg e] at h
      cases hc : chg n k tl td E p with
      | inl q => rw [hc] at h; cases h
      | inr x =>
        obtain ⟨p', c, v⟩ := x
        rw [hc] at h
        refine txt_ok hn hk m (upd E c v) p' (cnt + 1) (fun d hd => ?_) E' cnt' h
        rw [upd_at]
        by_cases e : d = c
        · rw [if_pos e]; exact Or.inr (chg_ok hn hk hc).2.2.2
        · rw [if_neg e]; exact hE d hd
theorem dig48 {a : Nat} (ha : a < 128) : (a < 48 ∧ nI a - 48 < 0) ∨ (48 ≤ a ∧ nI a - 48 = nI (a - 48)) := by
  rcases Nat.lt_or_ge a 48 with h | h
  · exact Or.inl ⟨h, pk_sneg (b := 48) (by decide) h⟩
  · exact Or.inr ⟨h, pk_sub (b := 48) h⟩
theorem dig97 {a : Nat} (ha : a < 128) : (a < 97 ∧ nI a - 97 < 0) ∨ (97 ≤ a ∧ nI a - 97 = nI (a - 97)) := by
  rcases Nat.lt_or_ge a 97 with h | h
  · exact Or.inl ⟨h, pk_sneg (b := 97) (by decide) h⟩
  · exact Or.inr ⟨h, pk_sub (b := 97) h⟩
/-! the class reads byte by byte -/
theorem tk0 {x : Int32} {μ : Mem} {K : Int32 → Mem → Prop} (e : μ.1 33 6 = 0) (h : f_X4_takesState x μ (fun r μ' => isB r ∧ K r μ')) : f_X4_takes x μ K := fun y ey => by
  rw [e] at ey; subst ey
  exact ⟨fun _ => h, fun c => absurd c (by decide), fun c => absurd c (by decide), fun c => absurd c (by decide), fun c => absurd c (by decide), fun c => absurd c (by decide), fun c => absurd rfl c.1⟩
theorem tk1 {x : Int32} {μ : Mem} {K : Int32 → Mem → Prop} (e : μ.1 33 6 = 1) (h : f_X4_takesLetter x μ (fun r μ' => isB r ∧ K r μ')) : f_X4_takes x μ K := fun y ey => by
  rw [e] at ey; subst ey
  exact ⟨fun c => absurd c (by decide), fun _ => h, fun c => absurd c (by decide), fun c => absurd c (by decide), fun c => absurd c (by decide), fun c => absurd c (by decide), fun c => absurd rfl c.2.1⟩
theorem tk2 {x : Int32} {μ : Mem} {K : Int32 → Mem → Prop} (e : μ.1 33 6 = 2) (h : f_X4_takesKind x μ (fun r μ' => isB r ∧ K r μ')) : f_X4_takes x μ K := fun y ey => by
  rw [e] at ey; subst ey
  exact ⟨fun c => absurd c (by decide), fun c => absurd c (by decide), fun _ => h, fun c => absurd c (by decide), fun c => absurd c (by decide), fun c => absurd c (by decide), fun c => absurd rfl c.2.2.1⟩
theorem tk3 {x : Int32} {μ : Mem} {K : Int32 → Mem → Prop} (e : μ.1 33 6 = 3) (h : f_X4_takesTarget x μ (fun r μ' => isB r ∧ K r μ')) : f_X4_takes x μ K := fun y ey => by
  rw [e] at ey; subst ey
  exact ⟨fun c => absurd c (by decide), fun c => absurd c (by decide), fun c => absurd c (by decide), fun _ => h, fun c => absurd c (by decide), fun c => absurd c (by decide), fun c => absurd rfl c.2.2.2.1⟩
theorem tk4 {x : Int32} {μ : Mem} {K : Int32 → Mem → Prop} (e : μ.1 33 6 = 4) (h : ∀ μ10 : Mem, μ10 = wI μ 33 6 5 → (¬ x = 47 → (K 0 μ10)) ∧ (x = 47 → (K 1 μ10))) : f_X4_takes x μ K := fun y ey => by
  rw [e] at ey; subst ey
  exact ⟨fun c => absurd c (by decide), fun c => absurd c (by decide), fun c => absurd c (by decide), fun c => absurd c (by decide), fun _ => h, fun c => absurd c (by decide), fun c => absurd rfl c.2.2.2.2.1⟩
theorem tk5 {x : Int32} {μ : Mem} {K : Int32 → Mem → Prop} (e : μ.1 33 6 = 5) (h : f_X4_takesOutput x μ (fun r μ' => isB r ∧ K r μ')) : f_X4_takes x μ K := fun y ey => by
  rw [e] at ey; subst ey
  exact ⟨fun c => absurd c (by decide), fun c => absurd c (by decide), fun c => absurd c (by decide), fun c => absurd c (by decide), fun c => absurd c (by decide), fun _ => h, fun c => absurd rfl c.2.2.2.2.2⟩
theorem tk6 {x : Int32} {μ : Mem} {K : Int32 → Mem → Prop} (e : μ.1 33 6 = 6) (h : ∀ μ14 : Mem, μ14 = wI μ 33 6 0 → ∀ μ15 : Mem, μ15 = wI μ14 33 3 ((μ14.1 33 3) + 1) → (¬ x = 59 → (K 0 μ15)) ∧ (x = 59 → (K 1 μ15))) : f_X4_takes x μ K := fun y ey => by
  rw [e] at ey; subst ey
  exact ⟨fun c => absurd c (by decide), fun c => absurd c (by decide), fun c => absurd c (by decide), fun c => absurd c (by decide), fun c => absurd c (by decide), fun c => absurd c (by decide), fun _ => h⟩
def bX (X : Mem) (n k tl cnt : Nat) (td : Nat → Nat) (E : Nat → Int32) (Y : Mem) : Prop := sX X Y ∧ Y.1 33 4 = nI n ∧ Y.1 33 5 = nI k ∧ Y.1 33 1 = nI tl ∧ Y.1 33 3 = nI cnt ∧ (∀ c, c < 32 → Y.1 35 c = E c) ∧ ∀ i, i < tl → Y.1 34 i = nI (td i)
theorem bX_33 {X : Mem} {n k tl cnt : Nat} {td : Nat → Nat} {E : Nat → Int32} {Y : Mem} (h : bX X n k tl cnt td E Y) (i : Nat) (hi : 6 ≤ i) (v : Int32) : bX X n k tl cnt td E (wI Y 33 i v) := ⟨sX_33 h.1 (by omega) v, by rw [wI_at, if_neg (by omega)]; exact h.2.1, by rw [wI_at, if_neg (by omega)]; exact h.2.2.1, by rw [wI_at, if_neg (by omega)]; exact h.2.2.2.1, by rw [wI_at, if_neg (by omega)]; exact h.2.2.2.2.1, fun c hc => by rw [wI_row (by omega)]; exact h.2.2.2.2.2.1 c hc, fun j hj => by rw [wI_row (by omega)]; exact h.2.2.2.2.2.2 j hj⟩
theorem bX_35 {X : Mem} {n k tl cnt : Nat} {td : Nat → Nat} {E : Nat → Int32} {Y : Mem} (h : bX X n k tl cnt td E Y) (c : Nat) (v : Int32) : bX X n k tl cnt td (upd E c v) (wI Y 35 c v) := ⟨sX_wI h.1 (Or.inr rfl) c v, by rw [wI_row (by omega)]; exact h.2.1, by rw [wI_row (by omega)]; exact h.2.2.1, by rw [wI_row (by omega)]; exact h.2.2.2.1, by rw [wI_row (by omega)]; exact h.2.2.2.2.1, fun d hd => by
  rw [wI_at, upd_at]
  by_cases e : d = c
  · rw [if_pos ⟨rfl, e⟩, if_pos e]
  · rw [if_neg (fun z => e z.2), if_neg e]; exact h.2.2.2.2.2.1 d hd, fun j hj => by rw [wI_row (by omega)]; exact h.2.2.2.2.2.2 j hj⟩
theorem bX_3 {X : Mem} {n k tl cnt : Nat} {td : Nat → Nat} {E : Nat → Int32} {Y : Mem} (h : bX X n k tl cnt td E Y) : bX X n k tl (cnt + 1) td E (wI Y 33 3 (Y.1 33 3 + 1)) := ⟨sX_33 h.1 (by omega) _, by rw [wI_at, if_neg (by omega)]; exact h.2.1, by rw [wI_at, if_neg (by omega)]; exact h.2.2.1, by rw [wI_at, if_neg (by omega)]; exact h.2.2.2.1, by rw [wI_at, if_pos ⟨rfl, rfl⟩, h.2.2.2.2.1, nI_1], fun c hc => by rw [wI_row (by omega)]; exact h.2.2.2.2.2.1 c hc, fun j hj => by rw [wI_row (by omega)]; exact h.2.2.2.2.2.2 j hj⟩
