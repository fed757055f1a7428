/-! what the list of leaders is like -/
def IL (n k : Nat) (A : Nat → Int32) (e : Nat → Nat) (L : List Nat) : Prop := (∀ r ∈ L, r < n) ∧ L.Pairwise (fun a b => e a ≠ e b) ∧ L[0]? = some 0 ∧ ∀ v r, 0 < v → L[v]? = some r → ∃ j s x, j < v ∧ L[j]? = some s ∧ x < k ∧ A (4*s+x) ≠ -1 ∧ cT (A (4*s+x)) = r
theorem IL_len {n k : Nat} {A : Nat → Int32} {e : Nat → Nat} {L : List Nat} (h : IL n k A e L) : L.length ≤ n := by
  have := nd_len L (List.range n) (h.2.1.imp (fun {a b} hab (e : a = b) => hab (by rw [e]))) (fun x hx => List.mem_range.mpr (h.1 x hx))
  rwa [List.length_range] at this
theorem IL_add {n k : Nat} {A : Nat → Int32} {e : Nat → Nat} {L : List Nat} (h : IL n k A e L) {i s x : Nat} (hi : L[i]? = some s) (hx : x < k) (hc : A (4*s+x) ≠ -1) (ht : cT (A (4*s+x)) < n) : IL n k A e (addL e L (cT (A (4*s+x)))) ∧ (∃ N, addL e L (cT (A (4*s+x))) = L ++ N) ∧ ∃ r ∈ addL e L (cT (A (4*s+x))), e r = e (cT (A (4*s+x))) := by
  unfold addL
  cases ha : L.any (fun r => e r == e (cT (A (4*s+x)))) with
  | true =>
    rw [if_pos rfl]
    refine ⟨h, ⟨[], by simp⟩, ?_⟩
    obtain ⟨r, hr, hb⟩ := List.any_eq_true.mp ha
    exact ⟨r, hr, beq_iff_eq.mp hb⟩
  | false =>
    rw [if_neg Bool.false_ne_true]
    have hil : i < L.length := by
      rcases Nat.lt_or_ge i L.length with z | z
      · exact z
      · rw [List.getElem?_eq_none z] at hi; cases hi
    refine ⟨⟨?_, ?_, ?_, ?_⟩, ⟨_, rfl⟩, ⟨_, by simp, rfl⟩⟩
    · intro r hr
      rcases List.mem_append.mp hr with y | y
      · exact h.1 r y
      · rw [List.mem_singleton.mp y]; exact ht
    · refine List.pairwise_append.mpr ⟨h.2.1, List.pairwise_singleton _ _, ?_⟩
      intro a ha' b hb
      rw [List.mem_singleton.mp hb]
      have := List.any_eq_false.mp ha a ha'
      intro q
      exact this (beq_iff_eq.mpr q)
    · rw [List.getElem?_append_left (by omega)]
      exact h.2.2.1
    · intro v r hv hr
      rcases Nat.lt_or_ge v L.length with z | z
      · rw [List.getElem?_append_left z] at hr
        obtain ⟨j, s', x', q1, q2, q3⟩ := h.2.2.2 v r hv hr
        exact ⟨j, s', x', q1, by rw [List.getElem?_append_left (by omega)]; exact q2, q3⟩
      · rw [List.getElem?_append_right z] at hr
        have hv' : v = L.length := by
          rcases Nat.lt_or_ge (v - L.length) 1 with w | w
          · omega
          · rw [List.getElem?_eq_none (by simpa using w)] at hr; cases hr
        subst hv'
        rw [Nat.sub_self] at hr
        have hr : cT (A (4*s+x)) = r := Option.some.inj hr
        exact ⟨i, s, x, hil, by rw [List.getElem?_append_left hil]; exact hi, hx, hc, hr⟩
theorem IL_inn {n k : Nat} (hn : n ≤ 8) (hk : k ≤ 4) {A : Nat → Int32} (hA : rowA n A) {e : Nat → Nat} {i s : Nat} : ∀ (j x : Nat) (L : List Nat), x + j = k → IL n k A e L → L[i]? = some s → IL n k A e (innL A e s j x L) ∧ (∃ N, innL A e s j x L = L ++ N) ∧ ∀ y, x ≤ y → y < k → A (4*s+y) ≠ -1 → ∃ r ∈ innL A e s j x L, e r = e (cT (A (4*s+y)))
  | 0, x, L, hx, h, hi => ⟨h, ⟨[], by simp [innL]⟩, fun y h1 h2 => by omega⟩
  | j + 1, x, L, hx, h, hi => by
    unfold innL
    have hs : s < n := h.1 s (List.mem_of_getElem? hi)
    by_cases z : A (4*s+x) = -1
    · rw [if_pos z]
      obtain ⟨a, b, c⟩ := IL_inn hn hk hA j (x+1) L (by omega) h hi
      refine ⟨a, b, fun y h1 h2 hy => ?_⟩
      rcases Nat.lt_or_ge x y with w | w
      · exact c y (by omega) h2 hy
      · rw [show y = x by omega] at hy
        exact absurd z hy
    · rw [if_neg z]
      have ht := (okA_arr hn (hA (4*s+x) (by omega)) z).2.2.1
      obtain ⟨q1, ⟨N, q2⟩, q3⟩ := IL_add h hi (by omega : x < k) z ht
      have hi' : (addL e L (cT (A (4*s+x))))[i]? = some s := by
        rw [q2, List.getElem?_append_left]
        · exact hi
        · rcases Nat.lt_or_ge i L.length with w | w
          · exact w
          · rw [List.getElem?_eq_none w] at hi; cases hi
      obtain ⟨a, ⟨N', b⟩, c⟩ := IL_inn hn hk hA j (x+1) _ (by omega) q1 hi'
      refine ⟨a, ⟨N ++ N', by rw [b, q2, List.append_assoc]⟩, fun y h1 h2 hy => ?_⟩
      rcases Nat.lt_or_ge x y with w | w
      · exact c y (by omega) h2 hy
      · rw [show y = x by omega]
        obtain ⟨r, hr, he⟩ := q3
        exact ⟨r, by rw [b]; exact List.mem_append_left _ hr, he⟩
def cls (k : Nat) (A : Nat → Int32) (e : Nat → Nat) (L : List Nat) : Prop := ∀ r ∈ L, ∀ x, x < k → A (4*r+x) ≠ -1 → ∃ r' ∈ L, e r' = e (cT (A (4*r+x)))
theorem IL_bfs {n k : Nat} (hn : n ≤ 8) (hk : k ≤ 4) {A : Nat → Int32} (hA : rowA n A) {e : Nat → Nat} : ∀ (m i : Nat) (L : List Nat), i + m = 8 → IL n k A e L → (∀ j s, j < i → L[j]? = some s → ∀ x, x < k → A (4*s+x) ≠ -1 → ∃ r' ∈ L, e r' = e (cT (A (4*s+x)))) → IL n k A e (bfsL A e k m i L) ∧ cls k A e (bfsL A e k m i L)
  | 0, i, L, hi, h, hc => by
    have hl := IL_len h
    refine ⟨h, fun r (hr : r ∈ L) => ?_⟩
    obtain ⟨j, hj⟩ := List.getElem?_of_mem hr
    refine hc j r ?_ hj
    rcases Nat.lt_or_ge j L.length with w | w
    · omega
    · rw [List.getElem?_eq_none w] at hj; cases hj
  | m + 1, i, L, hi, h, hc => by
    unfold bfsL
    cases hq : L[i]? with
    | none =>
      refine ⟨h, fun r hr => ?_⟩
      obtain ⟨j, hj⟩ := List.getElem?_of_mem hr
      refine hc j r ?_ hj
      have : L.length ≤ i := by
        rcases Nat.lt_or_ge i L.length with w | w
        · rw [List.getElem?_eq_getElem w] at hq; cases hq
        · exact w
      rcases Nat.lt_or_ge j L.length with w | w
      · omega
      · rw [List.getElem?_eq_none w] at hj; cases hj
    | some s =>
      obtain ⟨a, ⟨N, b⟩, c⟩ := IL_inn hn hk hA k 0 L (by omega) h hq
      have hil : i < L.length := by
        rcases Nat.lt_or_ge i L.length with z | z
        · exact z
        · rw [List.getElem?_eq_none z] at hq; cases hq
      refine IL_bfs hn hk hA m (i+1) _ (by omega) a (fun j s' hj hs' x hx hx' => ?_)
      rcases Nat.lt_or_ge j i with z | z
      · rw [b, List.getElem?_append_left (by omega)] at hs'
        obtain ⟨r', h1, h2⟩ := hc j s' z hs' x hx hx'
        exact ⟨r', by rw [b]; exact List.mem_append_left _ h1, h2⟩
      · rw [show j = i by omega, b, List.getElem?_append_left hil, hq] at hs'
        have e1 : s = s' := Option.some.inj hs'
        subst e1
        exact c x (by omega) hx hx'
theorem ldr_ok {n k : Nat} (h1 : 1 ≤ n) (hn : n ≤ 8) (hk : k ≤ 4) {A : Nat → Int32} (hA : rowA n A) (e : Nat → Nat) : IL n k A e (ldr A e k) ∧ cls k A e (ldr A e k) := by
  refine IL_bfs hn hk hA 8 0 [0] rfl ⟨fun r hr => ?_, List.pairwise_singleton _ _, rfl, fun v r hv hr => ?_⟩ (fun j s hj => by omega)
  · rw [List.mem_singleton.mp hr]; omega
  · rw [List.getElem?_eq_none (by show 1 ≤ v; omega)] at hr; cases hr
/-! and back: machines with the same form are alike -/
theorem idx_lt {e : Nat → Nat} {L : List Nat} {t : Nat} (h : ∃ r ∈ L, e r = e t) : idx e L t < L.length ∧ ∃ r, L[idx e L t]? = some r ∧ e r = e t := by
  obtain ⟨r, hr, he⟩ := h
  have hlt : idx e L t < L.length := List.findIdx_lt_length_of_exists ⟨r, hr, beq_iff_eq.mpr he⟩
  refine ⟨hlt, L[idx e L t], List.getElem?_eq_getElem hlt, ?_⟩
  exact beq_iff_eq.mp (List.findIdx_getElem (p := fun r => e r == e t) (w := hlt))
theorem sgN_inj {v v' : Nat → Nat} : ∀ k, (∀ x, x < k → v x < 128 ∧ v' x < 128) → sgN v k = sgN v' k → ∀ x, x < k → v x = v' x
  | 0, _, _, x, hx => by omega
  | k + 1, h, e, x, hx => by
    unfold sgN at e
    have hk := h k (by omega)
    have e1 : v k = v' k := by omega
    have e2 : sgN v k = sgN v' k := by omega
    rcases Nat.lt_or_ge x k with z | z
    · exact sgN_inj k (fun x hx => h x (by omega)) e2 x z
    · rw [show x = k by omega]; exact e1
theorem sgv_lt {n k : Nat} (h1 : 1 ≤ n) (hn : n ≤ 8) (hk : k ≤ 4) {A : Nat → Int32} (hA : rowA n A) {e : Nat → Nat} {s x : Nat} (hs : s < n) (hx : x < k) (hc : A (4*s+x) ≠ -1 → ∃ r' ∈ ldr A e k, e r' = e (cT (A (4*s+x)))) : sgv A e (ldr A e k) s x < 128 := by
  have hl := IL_len (ldr_ok h1 hn hk hA e).1
  unfold sgv
  by_cases z : A (4*s+x) = -1
  · rw [if_pos z]; omega
  · rw [if_neg z]
    have := (okA_arr hn (hA (4*s+x) (by omega)) z).2.2.2
    have := (idx_lt (hc z)).1
    omega
theorem sgv_e {n k : Nat} {A : Nat → Int32} {e : Nat → Nat} (sA : St n k A e) {L : List Nat} {s t : Nat} (hs : s < n) (ht : t < n) (he : e s = e t) {x : Nat} (hx : x < k) : sgv A e L s x = sgv A e L t x := by
  obtain ⟨p, q⟩ := sA.1 s t hs ht he x hx
  unfold sgv
  rcases p with ⟨p1, p2⟩ | ⟨p1, p2, p3⟩
  · rw [if_pos p1, if_pos p2]
  · rw [if_neg p1, if_neg p2, p3]
    unfold idx
    rw [q p1]
theorem alk_of_frm {n k : Nat} {A B : Nat → Int32} {eA eB : Nat → Nat} (h1 : 1 ≤ n) (hn : n ≤ 8) (hk : k ≤ 4) (hA : rowA n A) (hB : rowA n B) (sA : St n k A eA) (sB : St n k B eB) (h : frm A eA k = frm B eB k) : alk k A B := by
  obtain ⟨iA, cA⟩ := ldr_ok h1 hn hk hA eA
  obtain ⟨iB, cB⟩ := ldr_ok h1 hn hk hB eB
  have h0 : ∀ (C : Nat → Int32) (e : Nat → Nat), IL n k C e (ldr C e k) → idx e (ldr C e k) 0 = 0 ∧ ∃ r ∈ ldr C e k, e r = e 0 := by
    intro C e hi
    have := hi.2.2.1
    cases hL : ldr C e k with
    | nil => rw [hL] at this; cases this
    | cons a t =>
      rw [hL] at this
      have ea : a = 0 := Option.some.inj this
      refine ⟨?_, 0, by rw [ea]; simp, rfl⟩
      unfold idx
      rw [List.findIdx_cons, ea]
      simp
  refine ⟨fun a b => a < n ∧ b < n ∧ (∃ r ∈ ldr A eA k, eA r = eA a) ∧ (∃ r ∈ ldr B eB k, eB r = eB b) ∧ idx eA (ldr A eA k) a = idx eB (ldr B eB k) b, ⟨by omega, by omega, (h0 A eA iA).2, (h0 B eB iB).2, by rw [(h0 A eA iA).1, (h0 B eB iB).1]⟩, ?_⟩
  rintro a b ⟨ha, hb, ra, rb, hi⟩ x hx
  obtain ⟨la, sa, ga, ea⟩ := idx_lt ra
  obtain ⟨lb, sb, gb, eb⟩ := idx_lt rb
  have hsa := iA.1 sa (List.mem_of_getElem? ga)
  have hsb := iB.1 sb (List.mem_of_getElem? gb)
  -- the signatures of the two leaders
  have hsig : sgN (sgv A eA (ldr A eA k) sa) k = sgN (sgv B eB (ldr B eB k) sb) k := by
    have g1 : (frm A eA k)[idx eA (ldr A eA k) a]? = some (sgN (sgv A eA (ldr A eA k) sa) k) := by
      unfold frm
      rw [List.getElem?_map, ga]
      rfl
    have g2 : (frm B eB k)[idx eB (ldr B eB k) b]? = some (sgN (sgv B eB (ldr B eB k) sb) k) := by
      unfold frm
      rw [List.getElem?_map, gb]
      rfl
    rw [h, hi, g2] at g1
    exact (Option.some.inj g1).symm
  have hv := sgN_inj k (fun y hy => ⟨sgv_lt h1 hn hk hA hsa hy (cA sa (List.mem_of_getElem? ga) y hy), sgv_lt h1 hn hk hB hsb hy (cB sb (List.mem_of_getElem? gb) y hy)⟩) hsig x hx
  rw [sgv_e sA hsa ha ea hx, sgv_e sB hsb hb eb hx] at hv
  have cla : A (4*a+x) ≠ -1 → ∃ r ∈ ldr A eA k, eA r = eA (cT (A (4*a+x))) := by
    intro hc
    obtain ⟨p, q⟩ := sA.1 a sa ha hsa ea.symm x hx
    obtain ⟨r, hr, he⟩ := cA sa (List.mem_of_getElem? ga) x hx (sk_ne p hc)
    exact ⟨r, hr, by rw [he, q hc]⟩
  have clb : B (4*b+x) ≠ -1 → ∃ r ∈ ldr B eB k, eB r = eB (cT (B (4*b+x))) := by
    intro hc
    obtain ⟨p, q⟩ := sB.1 b sb hb hsb eb.symm x hx
    obtain ⟨r, hr, he⟩ := cB sb (List.mem_of_getElem? gb) x hx (sk_ne p hc)
    exact ⟨r, hr, by rw [he, q hc]⟩
  unfold sgv at hv
  by_cases za : A (4*a+x) = -1
  · rw [if_pos za] at hv
    by_cases zb : B (4*b+x) = -1
    · exact ⟨Or.inl ⟨za, zb⟩, fun c => absurd za c⟩
    · rw [if_neg zb] at hv; omega
  · rw [if_neg za] at hv
    by_cases zb : B (4*b+x) = -1
    · rw [if_pos zb] at hv; omega
    · rw [if_neg zb] at hv
      have oa := okA_arr hn (hA (4*a+x) (by omega)) za
      have ob := okA_arr hn (hB (4*b+x) (by omega)) zb
      refine ⟨Or.inr ⟨za, zb, by omega⟩, fun _ => ⟨oa.2.2.1, ob.2.2.1, cla za, clb zb, by omega⟩⟩
