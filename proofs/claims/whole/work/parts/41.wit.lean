/-! the nearest word that tells two machines apart -/
theorem inn_nd {df : Nd → Nat → Bool} {nx : Nd → Nat → Option Nd} {k : Nat} {ok : Nd → Prop} (hn : ∀ u x, ok u → x < k → df u x = false → ∀ v, nx u x = some v → ok v) {u : Nd} (hu : ok u) {w : List Nat} : ∀ (j x : Nat) (Q Q' : QL), x + j = k → (∀ q ∈ Q, ok q.1) → (Q.map (·.1)).Nodup → innQ df nx u w j x Q = .inr Q' → (∀ q ∈ Q', ok q.1) ∧ (Q'.map (·.1)).Nodup
  | 0, x, Q, Q', _, h1, h2, h => by
    have : Q = Q' := Sum.inr.inj h
    rw [← this]
    exact ⟨h1, h2⟩
  | j + 1, x, Q, Q', hx, h1, h2, h => by
    unfold innQ at h
    cases hd : df u x with
    | true => rw [hd] at h; cases h
    | false =>
      rw [hd] at h
      simp only [Bool.false_eq_true, if_false] at h
      cases hv : nx u x with
      | none =>
        rw [hv] at h
        exact inn_nd hn hu j (x+1) Q Q' (by omega) h1 h2 h
      | some v =>
        rw [hv] at h
        have ov := hn u x hu (by omega) hd v hv
        dsimp only at h
        by_cases z : v ∈ Q.map (·.1)
        · rw [if_pos z] at h
          exact inn_nd hn hu j (x+1) Q Q' (by omega) h1 h2 h
        · rw [if_neg z] at h
          refine inn_nd hn hu j (x+1) _ Q' (by omega) ?_ ?_ h
          · intro q hq
            rcases List.mem_append.mp hq with y | y
            · exact h1 q y
            · rw [List.mem_singleton.mp y]; exact ov
          · rw [List.map_append]
            refine List.nodup_append.mpr ⟨h2, by simp, ?_⟩
            intro a ha b hb
            simp at hb
            intro e
            exact z (by rw [← hb, ← e]; exact ha)
theorem bfs_tot {df : Nd → Nat → Bool} {nx : Nd → Nat → Option Nd} {k n : Nat} (hn : ∀ (u : Nd) x, u.1 < n ∧ u.2 < n → x < k → df u x = false → ∀ v, nx u x = some v → v.1 < n ∧ v.2 < n) : ∀ (m i : Nat) (Q : QL), i ≤ (allP n).length → i + m = (allP n).length + 1 → (∀ q ∈ Q, q.1.1 < n ∧ q.1.2 < n) → (Q.map (·.1)).Nodup → ∃ r, bfsQ df nx k m i Q = some r
  | 0, i, Q, h1, h2, _, _ => by omega
  | m + 1, i, Q, h1, h2, h3, h4 => by
    have hl := nd_room h4 h3
    unfold bfsQ
    cases hq : Q[i]? with
    | none => exact ⟨none, rfl⟩
    | some uw =>
      obtain ⟨u, w⟩ := uw
      have hi : i < Q.length := by
        rcases Nat.lt_or_ge i Q.length with z | z
        · exact z
        · rw [List.getElem?_eq_none z] at hq; cases hq
      dsimp only
      cases hh : innQ df nx u w k 0 Q with
      | inl wd => exact ⟨some wd, rfl⟩
      | inr Q' =>
        have := inn_nd (ok := fun v => v.1 < n ∧ v.2 < n) hn (h3 _ (List.mem_of_getElem? hq)) k 0 Q Q' (by omega) h3 h4 hh
        exact bfs_tot hn m (i+1) Q' (by omega) (by omega) this.1 this.2
theorem inn_cg {df df' : Nd → Nat → Bool} {nx nx' : Nd → Nat → Option Nd} {k : Nat} {ok : Nd → Prop} (hd : ∀ u x, ok u → x < k → df' u x = df u x) (hn : ∀ u x, ok u → x < k → df u x = false → nx' u x = nx u x) {u : Nd} (hu : ok u) {w : List Nat} : ∀ (j x : Nat) (Q : QL), x + j = k → innQ df' nx' u w j x Q = innQ df nx u w j x Q
  | 0, x, Q, _ => rfl
  | j + 1, x, Q, hx => by
    unfold innQ
    rw [hd u x hu (by omega)]
    cases hf : df u x with
    | true => rfl
    | false =>
      simp only [Bool.false_eq_true, if_false]
      rw [hn u x hu (by omega) hf]
      cases hv : nx u x with
      | none => exact inn_cg hd hn hu j (x+1) Q (by omega)
      | some v => exact inn_cg hd hn hu j (x+1) _ (by omega)
theorem bfs_cg {df df' : Nd → Nat → Bool} {nx nx' : Nd → Nat → Option Nd} {k : Nat} {ok : Nd → Prop} (hd : ∀ u x, ok u → x < k → df' u x = df u x) (hn : ∀ u x, ok u → x < k → df u x = false → nx' u x = nx u x) (ho : ∀ u x, ok u → x < k → df u x = false → ∀ v, nx u x = some v → ok v) : ∀ (m i : Nat) (Q : QL), (∀ q ∈ Q, ok q.1) → (Q.map (·.1)).Nodup → bfsQ df' nx' k m i Q = bfsQ df nx k m i Q
  | 0, i, Q, _, _ => rfl
  | m + 1, i, Q, h1, h2 => by
    unfold bfsQ
    cases hq : Q[i]? with
    | none => rfl
    | some uw =>
      obtain ⟨u, w⟩ := uw
      have hu := h1 _ (List.mem_of_getElem? hq)
      dsimp only
      rw [inn_cg hd hn hu k 0 Q (by omega)]
      cases hh : innQ df nx u w k 0 Q with
      | inl wd => rfl
      | inr Q' =>
        have := inn_nd ho hu k 0 Q Q' (by omega) h1 h2 hh
        exact bfs_cg hd hn ho m (i+1) Q' this.1 this.2
def rowA (n : Nat) (A : Nat → Int32) : Prop := ∀ c, c < 32 → okA n (A c)
theorem nxC_ok {n k : Nat} (hn : n ≤ 8) (hk : k ≤ 4) {A B : Nat → Int32} (hA : rowA n A) (hB : rowA n B) (u : Nd) (x : Nat) (hu : u.1 < n ∧ u.2 < n) (hx : x < k) (hd : dfC A B u x = false) (v : Nd) (hv : nxC A B u x = some v) : v.1 < n ∧ v.2 < n := by
  unfold nxC at hv
  unfold dfC at hd
  by_cases c : A (4*u.1+x) = -1
  · rw [if_pos c] at hv; cases hv
  · rw [if_neg c] at hv
    have c2 : ¬ B (4*u.2+x) = -1 := by
      intro z
      rw [if_pos (Or.inr z)] at hd
      have : ¬ (A (4*u.1+x) ≠ B (4*u.2+x)) := by simpa using hd
      exact this (by rw [z]; exact c)
    have r1 := okA_arr hn (hA _ (by omega)) c
    have r2 := okA_arr hn (hB _ (by omega)) c2
    rw [← Option.some.inj hv]
    exact ⟨r1.2.2.1, r2.2.2.1⟩
def wt (k : Nat) (A B : Nat → Int32) : Option (List Nat) := match bfsQ (dfC A B) (nxC A B) k 65 0 [((0,0),[])] with
  | some r => r
  | none => none
theorem wt_of {k : Nat} {A B : Nat → Int32} {m : Nat} {r : Option (List Nat)} (h : bfsQ (dfC A B) (nxC A B) k 65 0 [((0,0),[])] = some r) : wt k A B = r := by
  unfold wt
  rw [h]
theorem wt_ok {n k : Nat} (h1 : 1 ≤ n) (hn : n ≤ 8) (hk : k ≤ 4) {A B : Nat → Int32} (hA : rowA n A) (hB : rowA n B) : bfsQ (dfC A B) (nxC A B) k 65 0 [((0,0),[])] = some (wt k A B) := by
  obtain ⟨r, hr⟩ := bfs_tot (df := dfC A B) (nx := nxC A B) (k := k) (n := 8) (fun u x hu hx hd v hv => by
    have hA' : rowA 8 A := fun c hc => by
      rcases hA c hc with z | ⟨t, o, a, b, e⟩
      · exact Or.inl z
      · exact Or.inr ⟨t, o, by omega, b, e⟩
    have hB' : rowA 8 B := fun c hc => by
      rcases hB c hc with z | ⟨t, o, a, b, e⟩
      · exact Or.inl z
      · exact Or.inr ⟨t, o, by omega, b, e⟩
    exact nxC_ok (by omega) hk hA' hB' u x hu hx hd v hv) 65 0 [((0,0),[])] (by decide) (by decide) (by simp) (by simp)
  rw [hr, wt_of (m := 0) hr]
theorem dfC_cg {A B A' B' : Nat → Int32} (eA : ∀ c, c < 32 → A' c = A c) (eB : ∀ c, c < 32 → B' c = B c) {u : Nd} (hu : u.1 < 8 ∧ u.2 < 8) {x : Nat} (hx : x < 4) : dfC A' B' u x = dfC A B u x ∧ nxC A' B' u x = nxC A B u x := by
  unfold dfC nxC
  rw [eA _ (by omega), eB _ (by omega)]
  exact ⟨rfl, rfl⟩
theorem wt_cg {n k : Nat} (h1 : 1 ≤ n) (hn : n ≤ 8) (hk : k ≤ 4) {A B A' B' : Nat → Int32} (hA : rowA n A) (hB : rowA n B) (eA : ∀ c, c < 32 → A' c = A c) (eB : ∀ c, c < 32 → B' c = B c) : wt k A' B' = wt k A B := by
  have := bfs_cg (df := dfC A B) (df' := dfC A' B') (nx := nxC A B) (nx' := nxC A' B') (k := k) (ok := fun v => v.1 < n ∧ v.2 < n) (fun u x hu hx => (dfC_cg eA eB ⟨by omega, by omega⟩ (by omega)).1) (fun u x hu hx _ => (dfC_cg eA eB ⟨by omega, by omega⟩ (by omega)).2) (fun u x hu hx hd v hv => nxC_ok hn hk hA hB u x hu hx hd v hv) 65 0 [((0,0),[])] (by intro q hq; rw [List.mem_singleton.mp hq]; exact ⟨by show 0 < n; omega, by show 0 < n; omega⟩) (by simp)
  unfold wt
  rw [this]
/-- the reference's search finds the same -/
theorem wt_M {n k : Nat} (h1 : 1 ≤ n) (hn : n ≤ 8) (hk : k ≤ 4) {A B A' B' : Nat → Int32} (hA : rowA n A) (hB : rowA n B) (eA : ∀ c, c < 32 → A' c = A c) (eB : ∀ c, c < 32 → B' c = B c) : ∃ m, bfsQ (dfM A' B') (nxM A' B') k m 0 [((0,0),[])] = some (wt k A B) := by
  refine bfs_ls (df := dfC A B) (nx := nxC A B) (k := k) (ok := fun v => v.1 < n ∧ v.2 < n) ?_ ?_ ?_ 65 0 [((0,0),[])] _ (wt_ok h1 hn hk hA hB) 1 0 _ rfl (by simp [nsk, snk]) (by simp [nsk, snk]) ?_
  · intro u x hu hx
    have o1 := hA (4*u.1+x) (by omega)
    have o2 := hB (4*u.2+x) (by omega)
    unfold dfM dfC ouM
    rw [eA _ (by omega), eB _ (by omega), if_neg (show ¬ u.1 = 8 by omega), if_neg (show ¬ u.2 = 8 by omega)]
    generalize A (4*u.1+x) = a at o1 ⊢
    generalize B (4*u.2+x) = b at o2 ⊢
    by_cases ca : a = -1
    · by_cases cb : b = -1
      · rw [if_pos (Or.inl ca), if_neg (fun z => (okA_nn hn o1).mp z ca), if_neg (fun z => (okA_nn hn o2).mp z cb), ca, cb]
        simp
      · rw [if_pos (Or.inl ca), if_neg (fun z => (okA_nn hn o1).mp z ca), if_pos ((okA_nn hn o2).mpr cb)]
        have := (okA_arr hn o2 cb).2.2.2
        rw [decide_eq_decide]
        exact ⟨fun _ => by rw [ca]; exact fun z => cb z.symm, fun _ => by omega⟩
    · by_cases cb : b = -1
      · rw [if_pos (Or.inr cb), if_pos ((okA_nn hn o1).mpr ca), if_neg (fun z => (okA_nn hn o2).mp z cb)]
        have := (okA_arr hn o1 ca).2.2.2
        rw [decide_eq_decide]
        exact ⟨fun _ => by rw [cb]; exact ca, fun _ => by omega⟩
      · rw [if_neg (show ¬ (a = -1 ∨ b = -1) from fun z => z.elim ca cb), if_pos ((okA_nn hn o1).mpr ca), if_pos ((okA_nn hn o2).mpr cb)]
  · intro u x hu hx hd
    have o1 := hA (4*u.1+x) (by omega)
    have o2 := hB (4*u.2+x) (by omega)
    have hno := nxC_ok hn hk hA hB u x hu hx hd
    unfold dfC at hd
    unfold nxC at hno ⊢
    unfold nxM neM
    rw [eA _ (by omega), eB _ (by omega), if_neg (show ¬ u.1 = 8 by omega), if_neg (show ¬ u.2 = 8 by omega)]
    generalize A (4*u.1+x) = a at o1 hd hno ⊢
    generalize B (4*u.2+x) = b at o2 hd hno ⊢
    by_cases ca : a = -1
    · rw [if_pos (Or.inl ca)] at hd
      have cb : b = -1 := by
        have : a = b := by simpa using hd
        rw [← this]; exact ca
      exact Or.inl ⟨if_pos ca, by rw [if_neg (fun z => (okA_nn hn o1).mp z ca), if_neg (fun z => (okA_nn hn o2).mp z cb)]; rfl⟩
    · have cb : ¬ b = -1 := by
        intro cb
        rw [if_pos (Or.inr cb)] at hd
        have : a = b := by simpa using hd
        exact ca (by rw [this]; exact cb)
      have hno1 := hno (cT a, cT b) (if_neg ca)
      refine Or.inr ⟨(cT a, cT b), ?_, hno1, if_neg ca, ?_⟩
      · intro z
        have : cT a = 8 := congrArg Prod.fst z
        have : cT a < n := hno1.1
        omega
      · rw [if_pos ((okA_nn hn o1).mpr ca), if_pos ((okA_nn hn o2).mpr cb)]
  · intro x hx
    refine ⟨by unfold dfM ouM snk; simp, by unfold nxM neM snk; simp⟩
  · intro q hq
    rw [List.mem_singleton.mp hq]
    exact ⟨by show 0 < n; omega, by show 0 < n; omega⟩
