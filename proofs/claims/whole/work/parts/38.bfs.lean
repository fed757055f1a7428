/-! two machines side by side, nearest words first -/
abbrev Nd : Type := Nat × Nat
abbrev QL : Type := List (Nd × List Nat)
def innQ (df : Nd → Nat → Bool) (nx : Nd → Nat → Option Nd) (u : Nd) (w : List Nat) : Nat → Nat → QL → List Nat ⊕ QL
  | 0, _, Q => .inr Q
  | j + 1, x, Q => if df u x then .inl (w ++ [x]) else match nx u x with
    | none => innQ df nx u w j (x+1) Q
    | some v => innQ df nx u w j (x+1) (if v ∈ Q.map (·.1) then Q else Q ++ [(v, w ++ [x])])
def bfsQ (df : Nd → Nat → Bool) (nx : Nd → Nat → Option Nd) (k : Nat) : Nat → Nat → QL → Option (Option (List Nat))
  | 0, _, _ => none
  | m + 1, i, Q => match Q[i]? with
    | none => some none
    | some (u, w) => match innQ df nx u w k 0 Q with
      | .inl wd => some (some wd)
      | .inr Q' => bfsQ df nx k m (i+1) Q'
theorem bfs_up {df : Nd → Nat → Bool} {nx : Nd → Nat → Option Nd} {k : Nat} : ∀ {m i : Nat} {Q : QL} {r : Option (List Nat)}, bfsQ df nx k m i Q = some r → bfsQ df nx k (m+1) i Q = some r
  | 0, _, _, _, h => by cases h
  | m + 1, i, Q, r, h => by
    unfold bfsQ at h ⊢
    cases hq : Q[i]? with
    | none => rw [hq] at h; exact h
    | some uw =>
      obtain ⟨u, w⟩ := uw
      rw [hq] at h
      dsimp only at h ⊢
      cases hi : innQ df nx u w k 0 Q with
      | inl wd => rw [hi] at h; exact h
      | inr Q' => rw [hi] at h; exact bfs_up h
theorem bfs_add {df : Nd → Nat → Bool} {nx : Nd → Nat → Option Nd} {k m i : Nat} {Q : QL} {r : Option (List Nat)} (h : bfsQ df nx k m i Q = some r) : ∀ n, bfsQ df nx k (m+n) i Q = some r
  | 0 => h
  | n + 1 => bfs_up (bfs_add h n)
theorem bfs_det {df : Nd → Nat → Bool} {nx : Nd → Nat → Option Nd} {k m m' i : Nat} {Q : QL} {r r' : Option (List Nat)} (h : bfsQ df nx k m i Q = some r) (h' : bfsQ df nx k m' i Q = some r') : r = r' := by
  have a := bfs_add h m'
  have b := bfs_add h' m
  rw [Nat.add_comm] at b
  rw [a] at b
  exact Option.some.inj b
/-! the same with a pair of stopped machines in the queue, which tells nothing -/
def snk : Nd := (8, 8)
def nsk (q : Nd × List Nat) : Bool := decide (q.1 ≠ snk)
theorem mem_filt {Q : QL} {v : Nd} (hv : v ≠ snk) : v ∈ (Q.filter nsk).map (·.1) ↔ v ∈ Q.map (·.1) := by
  simp only [List.mem_map, List.mem_filter]
  constructor
  · rintro ⟨q, ⟨h1, _⟩, h2⟩
    exact ⟨q, h1, h2⟩
  · rintro ⟨q, h1, h2⟩
    exact ⟨q, ⟨h1, by unfold nsk; rw [h2]; simp [hv]⟩, h2⟩
section LS
variable {df df' : Nd → Nat → Bool} {nx nx' : Nd → Nat → Option Nd} {k : Nat} {ok : Nd → Prop}
/-- the inner loop, on both -/
theorem inn_ls (hd : ∀ u x, ok u → x < k → df' u x = df u x) (hn : ∀ u x, ok u → x < k → df u x = false → (nx u x = none ∧ nx' u x = some snk) ∨ ∃ v, v ≠ snk ∧ ok v ∧ nx u x = some v ∧ nx' u x = some v) {u : Nd} (hu : ok u) {w : List Nat} {i : Nat} : ∀ (j x : Nat) (Q Q2 : QL), x + j = k → Q = Q2.filter nsk → i < Q2.length → (∀ q ∈ Q, ok q.1) → match innQ df nx u w j x Q with
    | .inl wd => innQ df' nx' u w j x Q2 = .inl wd
    | .inr Q' => ∃ Q2', innQ df' nx' u w j x Q2 = .inr Q2' ∧ Q' = Q2'.filter nsk ∧ (∀ q ∈ Q', ok q.1) ∧ ∃ N, Q2' = Q2 ++ N
  | 0, x, Q, Q2, hx, hQ, hi, hok => ⟨Q2, rfl, hQ, hok, [], by simp⟩
  | j + 1, x, Q, Q2, hx, hQ, hi, hok => by
    unfold innQ
    rw [hd u x hu (by omega)]
    cases hf : df u x with
    | true => rfl
    | false =>
      simp only [Bool.false_eq_true, if_false]
      rcases hn u x hu (by omega) hf with ⟨h1, h2⟩ | ⟨v, h0, hv, h1, h2⟩
      · rw [h1, h2]
        dsimp only
        by_cases e : snk ∈ Q2.map (·.1)
        · rw [if_pos e]
          exact inn_ls hd hn hu j (x+1) Q Q2 (by omega) hQ hi hok
        · rw [if_neg e]
          have := inn_ls hd hn hu (w := w) (i := i) j (x+1) Q (Q2 ++ [(snk, w ++ [x])]) (by omega) (by rw [List.filter_append, ← hQ]; simp [nsk]) (by rw [List.length_append]; omega) hok
          cases hh : innQ df nx u w j (x+1) Q with
          | inl wd => rw [hh] at this; exact this
          | inr Q' =>
            rw [hh] at this
            obtain ⟨Q2', a, b, c, N, d⟩ := this
            exact ⟨Q2', a, b, c, (snk, w ++ [x]) :: N, by rw [d]; simp⟩
      · rw [h1, h2]
        dsimp only
        have em : v ∈ Q.map (·.1) ↔ v ∈ Q2.map (·.1) := by rw [hQ]; exact mem_filt h0
        by_cases e : v ∈ Q2.map (·.1)
        · rw [if_pos e, if_pos (em.mpr e)]
          exact inn_ls hd hn hu j (x+1) Q Q2 (by omega) hQ hi hok
        · rw [if_neg e, if_neg (fun z => e (em.mp z))]
          have := inn_ls hd hn hu (w := w) (i := i) j (x+1) (Q ++ [(v, w ++ [x])]) (Q2 ++ [(v, w ++ [x])]) (by omega) (by rw [List.filter_append, ← hQ]; simp [nsk, h0]) (by rw [List.length_append]; omega) (fun q hq => by
            rcases List.mem_append.mp hq with h | h
            · exact hok q h
            · rw [List.mem_singleton.mp h]; exact hv)
          cases hh : innQ df nx u w j (x+1) (Q ++ [(v, w ++ [x])]) with
          | inl wd => rw [hh] at this; exact this
          | inr Q' =>
            rw [hh] at this
            obtain ⟨Q2', a, b, c, N, d⟩ := this
            exact ⟨Q2', a, b, c, (v, w ++ [x]) :: N, by rw [d]; simp⟩
/-- at the pair of stopped machines nothing happens -/
theorem inn_sk (hs : ∀ x, x < k → df' snk x = false ∧ nx' snk x = some snk) {w : List Nat} : ∀ (j x : Nat) (Q2 : QL), x + j = k → snk ∈ Q2.map (·.1) → innQ df' nx' snk w j x Q2 = .inr Q2
  | 0, _, _, _, _ => rfl
  | j + 1, x, Q2, hx, hm => by
    unfold innQ
    rw [(hs x (by omega)).1, (hs x (by omega)).2]
    simp only [Bool.false_eq_true, if_false]
    rw [if_pos hm]
    exact inn_sk hs j (x+1) Q2 (by omega) hm
theorem bfs_ls (hd : ∀ u x, ok u → x < k → df' u x = df u x) (hn : ∀ u x, ok u → x < k → df u x = false → (nx u x = none ∧ nx' u x = some snk) ∨ ∃ v, v ≠ snk ∧ ok v ∧ nx u x = some v ∧ nx' u x = some v) (hs : ∀ x, x < k → df' snk x = false ∧ nx' snk x = some snk) : ∀ (m i : Nat) (Q : QL) (r : Option (List Nat)), bfsQ df nx k m i Q = some r → ∀ (l i2 : Nat) (Q2 : QL), Q2.length = i2 + l → Q = Q2.filter nsk → Q.drop i = (Q2.drop i2).filter nsk → (∀ q ∈ Q, ok q.1) → ∃ m2, bfsQ df' nx' k m2 i2 Q2 = some r
  | 0, i, Q, r, h => by cases h
  | m + 1, i, Q, r, h => by
    intro l
    induction l with
    | zero =>
      intro i2 Q2 hl hQ hdr hok
      have e : Q2.drop i2 = [] := List.drop_eq_nil_of_le (by omega)
      rw [e] at hdr
      have e2 : Q[i]? = none := by
        have : (Q.drop i)[0]? = none := by rw [hdr]; rfl
        rw [List.getElem?_drop] at this
        simpa using this
      unfold bfsQ at h
      rw [e2] at h
      refine ⟨1, ?_⟩
      unfold bfsQ
      rw [List.getElem?_eq_none (by omega)]
      exact h
    | succ l ih =>
      intro i2 Q2 hl hQ hdr hok
      have hlt : i2 < Q2.length := by omega
      have hdc := List.drop_eq_getElem_cons hlt
      have hg : Q2[i2]? = some Q2[i2] := List.getElem?_eq_getElem hlt
      by_cases e : (Q2[i2]).1 = snk
      · -- the stopped pair
        have hmem : snk ∈ Q2.map (·.1) := List.mem_map.mpr ⟨Q2[i2], List.getElem_mem hlt, e⟩
        have hdr2 : Q.drop i = (Q2.drop (i2+1)).filter nsk := by
          rw [hdr, hdc, List.filter_cons_of_neg (by unfold nsk; rw [e]; simp)]
        obtain ⟨m2, hm2⟩ := ih (i2+1) Q2 (by omega) hQ hdr2 hok
        refine ⟨m2 + 1, ?_⟩
        unfold bfsQ
        rw [hg]
        cases hq : Q2[i2] with
        | mk u w =>
          rw [hq] at e
          dsimp only at e ⊢
          rw [e, inn_sk hs k 0 Q2 (by omega) hmem]
          exact hm2
      · -- an ordinary pair
        have hdr2 : Q.drop i = Q2[i2] :: (Q2.drop (i2+1)).filter nsk := by
          rw [hdr, hdc, List.filter_cons_of_pos (by unfold nsk; simpa using e)]
        have hlt1 : i < Q.length := by
          rcases Nat.lt_or_ge i Q.length with z | z
          · exact z
          · rw [List.drop_eq_nil_of_le z] at hdr2; cases hdr2
        have hd1 := List.drop_eq_getElem_cons hlt1
        rw [hd1] at hdr2
        have eq1 : Q[i] = Q2[i2] := (List.cons.inj hdr2).1
        have eq2 : Q.drop (i+1) = (Q2.drop (i2+1)).filter nsk := (List.cons.inj hdr2).2
        have hok1 : ok (Q2[i2]).1 := by rw [← eq1]; exact hok _ (List.getElem_mem hlt1)
        unfold bfsQ at h
        rw [List.getElem?_eq_getElem hlt1, eq1] at h
        have goal1 : ∀ m2, bfsQ df' nx' k (m2+1) i2 Q2 = match innQ df' nx' (Q2[i2]).1 (Q2[i2]).2 k 0 Q2 with
          | .inl wd => some (some wd)
          | .inr Q' => bfsQ df' nx' k m2 (i2+1) Q' := by
          intro m2
          rw [bfsQ, hg]
        have L := inn_ls hd hn hok1 (w := (Q2[i2]).2) (i := i2) k 0 Q Q2 (by omega) hQ hlt hok
        cases hh : innQ df nx (Q2[i2]).1 (Q2[i2]).2 k 0 Q with
        | inl wd =>
          rw [hh] at L
          have h : some (some wd) = some r := by
            have h' : (match innQ df nx (Q2[i2]).1 (Q2[i2]).2 k 0 Q with | .inl wd => some (some wd) | .inr Q' => bfsQ df nx k m (i+1) Q') = some r := h
            rw [hh] at h'
            exact h'
          refine ⟨1, ?_⟩
          rw [goal1, L]
          exact h
        | inr Q' =>
          rw [hh] at L
          obtain ⟨Q2', a, b, c, N, d⟩ := L
          have h : bfsQ df nx k m (i+1) Q' = some r := by
            have h' : (match innQ df nx (Q2[i2]).1 (Q2[i2]).2 k 0 Q with | .inl wd => some (some wd) | .inr Q' => bfsQ df nx k m (i+1) Q') = some r := h
            rw [hh] at h'
            exact h'
          have hlen : Q.length = (Q2.filter nsk).length := by rw [hQ]
          have hQ' : Q' = Q ++ N.filter nsk := by rw [b, d, List.filter_append, ← hQ]
          obtain ⟨m2, hm2⟩ := bfs_ls hd hn hs m (i+1) Q' r h (Q2'.length - (i2+1)) (i2+1) Q2' (by rw [d, List.length_append]; omega) b (by rw [hQ', d, List.drop_append_of_le_length (by omega), List.drop_append_of_le_length (by omega), List.filter_append, eq2]) c
          refine ⟨m2 + 1, ?_⟩
          rw [goal1, a]
          exact hm2
end LS
