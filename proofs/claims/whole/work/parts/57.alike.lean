/-! machines that no word tells apart -/
def sk (a b : Int32) : Prop := (a = -1 ∧ b = -1) ∨ (a ≠ -1 ∧ b ≠ -1 ∧ cO a = cO b)
def Bi (k : Nat) (A B : Nat → Int32) (R : Nat → Nat → Prop) : Prop := ∀ a b, R a b → ∀ x, x < k → sk (A (4*a+x)) (B (4*b+x)) ∧ (A (4*a+x) ≠ -1 → R (cT (A (4*a+x))) (cT (B (4*b+x))))
def alk (k : Nat) (A B : Nat → Int32) : Prop := ∃ R : Nat → Nat → Prop, R 0 0 ∧ Bi k A B R
theorem sk_df {a b : Int32} : ((if a = -1 ∨ b = -1 then decide (a ≠ b) else decide (cO a ≠ cO b)) = false) ↔ sk a b := by
  unfold sk
  by_cases ha : a = -1
  · by_cases hb : b = -1
    · rw [if_pos (Or.inl ha), ha, hb]; simp
    · rw [if_pos (Or.inl ha)]
      constructor
      · intro h
        have : a = b := by simpa using h
        exact absurd (this ▸ ha) hb
      · rintro (h | h)
        · exact absurd h.2 hb
        · exact absurd ha h.1
  · by_cases hb : b = -1
    · rw [if_pos (Or.inr hb)]
      constructor
      · intro h
        have : a = b := by simpa using h
        exact absurd (this.trans hb) ha
      · rintro (h | h)
        · exact absurd h.1 ha
        · exact absurd hb h.2.1
    · rw [if_neg (fun z => z.elim ha hb)]
      constructor
      · intro h
        exact Or.inr ⟨ha, hb, by simpa using h⟩
      · rintro (h | h)
        · exact absurd h.1 ha
        · simp [h.2.2]
theorem alk_rf (k : Nat) (A : Nat → Int32) : alk k A A := by
  refine ⟨fun a b => a = b, rfl, ?_⟩
  rintro a b rfl x hx
  refine ⟨?_, fun _ => rfl⟩
  by_cases h : A (4*a+x) = -1
  · exact Or.inl ⟨h, h⟩
  · exact Or.inr ⟨h, h, rfl⟩
theorem alk_sy {k : Nat} {A B : Nat → Int32} (h : alk k A B) : alk k B A := by
  obtain ⟨R, h0, h⟩ := h
  refine ⟨fun b a => R a b, h0, ?_⟩
  intro b a hr x hx
  obtain ⟨h1, h2⟩ := h a b hr x hx
  refine ⟨?_, fun hb => ?_⟩
  · rcases h1 with ⟨p, q⟩ | ⟨p, q, r⟩
    · exact Or.inl ⟨q, p⟩
    · exact Or.inr ⟨q, p, r.symm⟩
  · refine h2 ?_
    rcases h1 with ⟨p, q⟩ | ⟨p, q, r⟩
    · exact absurd q hb
    · exact p
theorem alk_tr {k : Nat} {A B C : Nat → Int32} (h : alk k A B) (h' : alk k B C) : alk k A C := by
  obtain ⟨R, h0, h⟩ := h
  obtain ⟨R', h0', h'⟩ := h'
  refine ⟨fun a c => ∃ b, R a b ∧ R' b c, ⟨0, h0, h0'⟩, ?_⟩
  rintro a c ⟨b, hr, hr'⟩ x hx
  obtain ⟨h1, h2⟩ := h a b hr x hx
  obtain ⟨h3, h4⟩ := h' b c hr' x hx
  refine ⟨?_, fun ha => ⟨_, h2 ha, h4 ?_⟩⟩
  · rcases h1 with ⟨p, q⟩ | ⟨p, q, r⟩
    · rcases h3 with ⟨p', q'⟩ | ⟨p', q', r'⟩
      · exact Or.inl ⟨p, q'⟩
      · exact absurd q p'
    · rcases h3 with ⟨p', q'⟩ | ⟨p', q', r'⟩
      · exact absurd p' q
      · exact Or.inr ⟨p, q', r.trans r'⟩
  · rcases h1 with ⟨p, q⟩ | ⟨p, q, r⟩
    · exact absurd p ha
    · exact q
theorem inn_R {df : Nd → Nat → Bool} {nx : Nd → Nat → Option Nd} {k : Nat} {R : Nd → Prop} (hR : ∀ u, R u → ∀ x, x < k → df u x = false ∧ ∀ v, nx u x = some v → R v) {u : Nd} (hu : R u) {w : List Nat} : ∀ (j x : Nat) (Q : QL), x + j = k → (∀ q ∈ Q, R q.1) → ∃ Q', innQ df nx u w j x Q = .inr Q' ∧ ∀ q ∈ Q', R q.1
  | 0, x, Q, _, hQ => ⟨Q, rfl, hQ⟩
  | j + 1, x, Q, hx, hQ => by
    have h := hR u hu x (by omega)
    unfold innQ
    rw [h.1]
    simp only [Bool.false_eq_true, if_false]
    cases hv : nx u x with
    | none => exact inn_R hR hu j (x+1) Q (by omega) hQ
    | some v =>
      refine inn_R hR hu j (x+1) _ (by omega) ?_
      intro q hq
      by_cases z : v ∈ Q.map (·.1)
      · rw [if_pos z] at hq; exact hQ q hq
      · rw [if_neg z] at hq
        rcases List.mem_append.mp hq with y | y
        · exact hQ q y
        · rw [List.mem_singleton.mp y]; exact h.2 v hv
theorem bfs_R {df : Nd → Nat → Bool} {nx : Nd → Nat → Option Nd} {k : Nat} {R : Nd → Prop} (hR : ∀ u, R u → ∀ x, x < k → df u x = false ∧ ∀ v, nx u x = some v → R v) : ∀ (m i : Nat) (Q : QL) (r : Option (List Nat)), (∀ q ∈ Q, R q.1) → bfsQ df nx k m i Q = some r → r = none
  | 0, _, _, _, _, h => by cases h
  | m + 1, i, Q, r, hQ, h => by
    unfold bfsQ at h
    cases hq : Q[i]? with
    | none => rw [hq] at h; exact (Option.some.inj h).symm
    | some uw =>
      obtain ⟨u, w⟩ := uw
      rw [hq] at h
      dsimp only at h
      obtain ⟨Q', h1, h2⟩ := inn_R hR (hQ _ (List.mem_of_getElem? hq)) (w := w) k 0 Q (by omega) hQ
      rw [h1] at h
      exact bfs_R hR m (i+1) Q' r h2 h
theorem inn_C {df : Nd → Nat → Bool} {nx : Nd → Nat → Option Nd} {u : Nd} {w : List Nat} : ∀ (j x : Nat) (Q Q' : QL), innQ df nx u w j x Q = .inr Q' → (∃ N, Q' = Q ++ N) ∧ ∀ y, x ≤ y → y < x + j → df u y = false ∧ ∀ v, nx u y = some v → v ∈ Q'.map (·.1)
  | 0, x, Q, Q', h => ⟨⟨[], by have : Q = Q' := Sum.inr.inj h; rw [this]; simp⟩, fun y h1 h2 => by omega⟩
  | j + 1, x, Q, Q', h => by
    unfold innQ at h
    cases hd : df u x with
    | true => rw [hd] at h; cases h
    | false =>
      rw [hd] at h
      simp only [Bool.false_eq_true, if_false] at h
      cases hv : nx u x with
      | none =>
        rw [hv] at h
        obtain ⟨hN, hy⟩ := inn_C j (x+1) Q Q' h
        refine ⟨hN, fun y h1 h2 => ?_⟩
        rcases Nat.lt_or_ge x y with z | z
        · exact hy y (by omega) (by omega)
        · rw [show y = x by omega]
          exact ⟨hd, fun v e => by rw [hv] at e; cases e⟩
      | some v =>
        rw [hv] at h
        obtain ⟨⟨N, hN⟩, hy⟩ := inn_C j (x+1) _ Q' h
        have hvm : v ∈ Q'.map (·.1) := by
          rw [hN]
          by_cases z : v ∈ Q.map (·.1)
          · rw [if_pos z, List.map_append]; exact List.mem_append_left _ z
          · rw [if_neg z]; simp
        refine ⟨?_, fun y h1 h2 => ?_⟩
        · by_cases z : v ∈ Q.map (·.1)
          · rw [if_pos z] at hN; exact ⟨N, hN⟩
          · rw [if_neg z] at hN; exact ⟨(v, w ++ [x]) :: N, by rw [hN]; simp⟩
        · rcases Nat.lt_or_ge x y with z | z
          · exact hy y (by omega) (by omega)
          · rw [show y = x by omega]
            exact ⟨hd, fun v' e => by rw [hv] at e; rw [← Option.some.inj e]; exact hvm⟩
theorem bfs_C {df : Nd → Nat → Bool} {nx : Nd → Nat → Option Nd} {k : Nat} : ∀ (m i : Nat) (Q : QL), bfsQ df nx k m i Q = some none → (∀ j q, j < i → Q[j]? = some q → ∀ x, x < k → df q.1 x = false ∧ ∀ v, nx q.1 x = some v → v ∈ Q.map (·.1)) → ∃ N, ∀ q ∈ Q ++ N, ∀ x, x < k → df q.1 x = false ∧ ∀ v, nx q.1 x = some v → v ∈ (Q ++ N).map (·.1)
  | 0, _, _, h, _ => by cases h
  | m + 1, i, Q, h, hc => by
    unfold bfsQ at h
    cases hq : Q[i]? with
    | none =>
      refine ⟨[], fun q hm => ?_⟩
      rw [List.append_nil] at hm ⊢
      obtain ⟨j, hj⟩ := List.getElem?_of_mem hm
      have hl : Q.length ≤ i := by
        rcases Nat.lt_or_ge i Q.length with z | z
        · rw [List.getElem?_eq_getElem z] at hq; cases hq
        · exact z
      refine hc j q ?_ hj
      rcases Nat.lt_or_ge j Q.length with z | z
      · omega
      · rw [List.getElem?_eq_none z] at hj; cases hj
    | some uw =>
      obtain ⟨u, w⟩ := uw
      rw [hq] at h
      dsimp only at h
      cases hh : innQ df nx u w k 0 Q with
      | inl wd => rw [hh] at h; cases h
      | inr Q' =>
        rw [hh] at h
        obtain ⟨⟨N, hN⟩, hy⟩ := inn_C k 0 Q Q' hh
        have hi : i < Q.length := by
          rcases Nat.lt_or_ge i Q.length with z | z
          · exact z
          · rw [List.getElem?_eq_none z] at hq; cases hq
        obtain ⟨N', h'⟩ := bfs_C m (i+1) Q' h (fun j q hj hjq x hx => by
          rcases Nat.lt_or_ge j i with z | z
          · rw [hN, List.getElem?_append_left (by omega)] at hjq
            have := hc j q z hjq x hx
            refine ⟨this.1, fun v hv => ?_⟩
            rw [hN, List.map_append]
            exact List.mem_append_left _ (this.2 v hv)
          · rw [show j = i by omega, hN, List.getElem?_append_left hi, hq] at hjq
            rw [← Option.some.inj hjq]
            exact hy x (by omega) (by omega))
        refine ⟨N ++ N', ?_⟩
        rw [← List.append_assoc, ← hN]
        exact h'
theorem wt_alk {n k : Nat} (h1 : 1 ≤ n) (hn : n ≤ 8) (hk : k ≤ 4) {A B : Nat → Int32} (hA : rowA n A) (hB : rowA n B) : wt k A B = none ↔ alk k A B := by
  have hw := wt_ok h1 hn hk hA hB
  constructor
  · intro h
    rw [h] at hw
    obtain ⟨N, hN⟩ := bfs_C 65 0 _ hw (fun j q hj => by omega)
    refine ⟨fun a b => ((a, b) : Nd) ∈ (([((0,0),[])] : QL) ++ N).map (·.1), by simp, ?_⟩
    intro a b hr x hx
    obtain ⟨q, hq, e⟩ := List.mem_map.mp hr
    have := hN q hq x hx
    have e : q.1 = (a, b) := e
    rw [e] at this
    refine ⟨sk_df.mp this.1, fun ha => this.2 _ ?_⟩
    unfold nxC
    rw [if_neg ha]
  · rintro ⟨R, h0, h⟩
    refine bfs_R (R := fun u => R u.1 u.2) ?_ 65 0 _ _ (by simp; exact h0) hw
    intro u hu x hx
    obtain ⟨p, q⟩ := h u.1 u.2 hu x hx
    refine ⟨sk_df.mpr p, fun v hv => ?_⟩
    unfold nxC at hv
    by_cases z : A (4*u.1+x) = -1
    · rw [if_pos z] at hv; cases hv
    · rw [if_neg z] at hv
      rw [← Option.some.inj hv]
      exact q z
/-! how many kinds -/
theorem knd_le {α : Type} {E : α → α → Prop} (sy : ∀ a b, E a b → E b a) (tr : ∀ a b c, E a b → E b c → E a c) : ∀ (l l' : List α), l.Pairwise (fun a b => ¬ E a b) → (∀ a ∈ l, ∃ b ∈ l', E a b) → l.length ≤ l'.length
  | [], _, _, _ => Nat.zero_le _
  | a :: t, l', h, hc => by
    have h1 := List.pairwise_cons.mp h
    obtain ⟨b, hb, hab⟩ := hc a (List.mem_cons_self ..)
    obtain ⟨s, r, e⟩ := List.append_of_mem hb
    have := knd_le sy tr t (s ++ r) h1.2 (fun x hx => by
      obtain ⟨y, hy, hxy⟩ := hc x (List.mem_cons_of_mem _ hx)
      rw [e] at hy
      rcases List.mem_append.mp hy with z | z
      · exact ⟨y, List.mem_append_left _ z, hxy⟩
      · rcases List.mem_cons.mp z with w | w
        · rw [w] at hxy
          exact absurd (tr _ _ _ hab (sy _ _ hxy)) (h1.1 x hx)
        · exact ⟨y, List.mem_append_right _ w, hxy⟩)
    rw [e]
    simp at this ⊢
    omega
