/-! two signatures to a long -/
def pk2 (l : List Nat) (i : Nat) : Nat := if 2*i+1 < l.length then l.getD (2*i) 0 * 268435456 + l.getD (2*i+1) 0 else if 2*i < l.length then l.getD (2*i) 0 else 0
def men (k N v : Nat) : Prop := ∃ f : Nat → Nat, (∀ x, x < k → f x < 128) ∧ N = sgN f k ∧ ∃ x o, x < k ∧ o < 10 ∧ f x = 1 + (10 * v + o)
def okL (k : Nat) (l : List Nat) : Prop := 0 < l.length ∧ l.length ≤ 8 ∧ (∀ N ∈ l, N < 268435456) ∧ (∀ v, 0 < v → v < l.length → ∃ j N, j < v ∧ l[j]? = some N ∧ men k N v) ∧ ∀ (j N v : Nat), l[j]? = some N → men k N v → v < l.length
theorem sgN_pos {f : Nat → Nat} : ∀ k x, x < k → 0 < f x → 0 < sgN f k
  | 0, x, hx, _ => by omega
  | k + 1, x, hx, h => by
    unfold sgN
    rcases Nat.lt_or_ge x k with z | z
    · have := sgN_pos k x z h
      omega
    · rw [show k = x by omega]; omega
theorem sgN_lt {f : Nat → Nat} : ∀ k, (∀ x, x < k → f x < 128) → sgN f k < 128 ^ k
  | 0, _ => by show 0 < 1; decide
  | k + 1, h => by
    have ih := sgN_lt k (fun x hx => h x (by omega))
    have hk := h k (by omega)
    unfold sgN
    rw [Nat.pow_succ]
    omega
theorem men_pos {k N v : Nat} (h : men k N v) : 0 < N := by
  obtain ⟨f, _, e, x, o, hx, _, hv⟩ := h
  rw [e]
  exact sgN_pos k x hx (by omega)
theorem lst_get {l : List Nat} {i : Nat} (h : i < l.length) : l[i]? = some (l.getD i 0) := by
  rw [List.getD_eq_getElem?_getD, List.getElem?_eq_getElem h]
  rfl
theorem pk_half {k : Nat} {l l' : List Nat} (h : okL k l) (h' : okL k l') {v : Nat} (hv : v < l.length) (hq : ∀ t, t < v → l[t]? = l'[t]?) : v < l'.length := by
  rcases Nat.eq_zero_or_pos v with z | z
  · rw [z]; exact h'.1
  · obtain ⟨j, N, hj, hN, hm⟩ := h.2.2.2.1 v z hv
    exact h'.2.2.2.2 j N v (by rw [← hq j hj]; exact hN) hm
theorem pk_odd {k : Nat} {l l' : List Nat} (h : okL k l) (h' : okL k l') {i : Nat} (hq : ∀ t, t < 2*i → l[t]? = l'[t]?) (e : pk2 l i = pk2 l' i) (h1 : 2*i+1 < l.length) (h2 : 2*i < l'.length) : 2*i+1 < l'.length := by
  rcases Nat.lt_or_ge (2*i+1) l'.length with z | z
  · exact z
  · exfalso
    unfold pk2 at e
    rw [if_pos h1, if_neg (by omega), if_pos h2] at e
    have b1 := h'.2.2.1 _ (List.mem_of_getElem? (lst_get h2))
    have a0 : l.getD (2*i) 0 = 0 := by omega
    obtain ⟨j, N, hj, hN, hm⟩ := h.2.2.2.1 (2*i+1) (by omega) h1
    have hj2 : j < 2*i := by
      rcases Nat.lt_or_ge j (2*i) with y | y
      · exact y
      · have ej : j = 2*i := by omega
        rw [ej, lst_get (by omega)] at hN
        have : N = 0 := by rw [← Option.some.inj hN]; exact a0
        have := men_pos hm
        omega
    have := h'.2.2.2.2 j N (2*i+1) (by rw [← hq j hj2]; exact hN) hm
    omega
theorem pk_inj {k : Nat} {l l' : List Nat} (h : okL k l) (h' : okL k l') (e : ∀ i, i < 4 → pk2 l i = pk2 l' i) : l = l' := by
  have key : ∀ i, i ≤ 4 → ∀ t, t < 2*i → l[t]? = l'[t]? := by
    intro i
    induction i with
    | zero => intro _ t ht; omega
    | succ i ih =>
      intro hi t ht
      have hq := ih (by omega)
      have ei := e i (by omega)
      rcases Nat.lt_or_ge t (2*i) with z | z
      · exact hq t z
      · have a1 : 2*i < l.length → 2*i < l'.length := fun q => pk_half h h' q hq
        have a2 : 2*i < l'.length → 2*i < l.length := fun q => pk_half h' h q (fun t ht => (hq t ht).symm)
        by_cases c : 2*i < l.length
        · have c' := a1 c
          by_cases d : 2*i+1 < l.length
          · have d' := pk_odd h h' hq ei d c'
            unfold pk2 at ei
            rw [if_pos d, if_pos d'] at ei
            have b1 := h.2.2.1 _ (List.mem_of_getElem? (lst_get d))
            have b2 := h'.2.2.1 _ (List.mem_of_getElem? (lst_get d'))
            rcases Nat.lt_or_ge t (2*i+1) with y | y
            · rw [show t = 2*i by omega, lst_get c, lst_get c', show l.getD (2*i) 0 = l'.getD (2*i) 0 by omega]
            · rw [show t = 2*i+1 by omega, lst_get d, lst_get d', show l.getD (2*i+1) 0 = l'.getD (2*i+1) 0 by omega]
          · have d' : ¬ 2*i+1 < l'.length := fun q => d (pk_odd h' h (fun t ht => (hq t ht).symm) ei.symm q c)
            unfold pk2 at ei
            rw [if_neg d, if_neg d', if_pos c, if_pos c'] at ei
            rcases Nat.lt_or_ge t (2*i+1) with y | y
            · rw [show t = 2*i by omega, lst_get c, lst_get c', ei]
            · rw [List.getElem?_eq_none (by omega), List.getElem?_eq_none (by omega)]
        · have c' : ¬ 2*i < l'.length := fun q => c (a2 q)
          rw [List.getElem?_eq_none (by omega), List.getElem?_eq_none (by omega)]
  apply List.ext_getElem?
  intro t
  rcases Nat.lt_or_ge t 8 with z | z
  · exact key 4 (by omega) t (by omega)
  · have b1 := h.2.1
    have b2 := h'.2.1
    rw [List.getElem?_eq_none (by omega), List.getElem?_eq_none (by omega)]
theorem idx_at {e : Nat → Nat} {L : List Nat} (hp : L.Pairwise (fun a b => e a ≠ e b)) {v r : Nat} (hv : L[v]? = some r) : idx e L r = v := by
  have hl : v < L.length := by
    rcases Nat.lt_or_ge v L.length with z | z
    · exact z
    · rw [List.getElem?_eq_none z] at hv; cases hv
  obtain ⟨h1, r', g, he⟩ := idx_lt (e := e) (L := L) (t := r) ⟨r, List.mem_of_getElem? hv, rfl⟩
  have hr : L[v] = r := by rw [List.getElem?_eq_getElem hl] at hv; exact Option.some.inj hv
  have hr' : L[idx e L r] = r' := by rw [List.getElem?_eq_getElem h1] at g; exact Option.some.inj g
  rcases Nat.lt_trichotomy (idx e L r) v with z | z | z
  · have := List.pairwise_iff_getElem.mp hp _ _ h1 hl z
    rw [hr, hr'] at this
    exact absurd he this
  · exact z
  · have := List.pairwise_iff_getElem.mp hp _ _ hl h1 z
    rw [hr, hr'] at this
    exact absurd he.symm this
theorem frm_ok {n k : Nat} (h1 : 1 ≤ n) (hn : n ≤ 8) (hk : k ≤ 4) {A : Nat → Int32} (hA : rowA n A) (e : Nat → Nat) : okL k (frm A e k) := by
  obtain ⟨hi, hc⟩ := ldr_ok h1 hn hk hA e
  have hl := IL_len hi
  have len : (frm A e k).length = (ldr A e k).length := by unfold frm; rw [List.length_map]
  have at' : ∀ (j N : Nat), (frm A e k)[j]? = some N → ∃ s, (ldr A e k)[j]? = some s ∧ N = sgN (sgv A e (ldr A e k) s) k := by
    intro j N hj
    unfold frm at hj
    rw [List.getElem?_map] at hj
    cases hs : (ldr A e k)[j]? with
    | none => rw [hs] at hj; cases hj
    | some s => rw [hs] at hj; exact ⟨s, rfl, (Option.some.inj hj).symm⟩
  have small : ∀ s, s ∈ ldr A e k → ∀ x, x < k → sgv A e (ldr A e k) s x < 128 := fun s hs x hx => sgv_lt h1 hn hk hA (hi.1 s hs) hx (hc s hs x hx)
  refine ⟨?_, by omega, ?_, ?_, ?_⟩
  · rw [len]
    have := hi.2.2.1
    rcases Nat.eq_zero_or_pos (ldr A e k).length with z | z
    · rw [List.getElem?_eq_none (by omega)] at this; cases this
    · exact z
  · intro N hN
    obtain ⟨j, hj⟩ := List.getElem?_of_mem hN
    obtain ⟨s, hs, rfl⟩ := at' j N hj
    have := sgN_lt k (small s (List.mem_of_getElem? hs))
    have : 128 ^ k ≤ 128 ^ 4 := Nat.pow_le_pow_right (by decide) hk
    have : (128 : Nat) ^ 4 = 268435456 := by decide
    omega
  · intro v hv hlv
    rw [len] at hlv
    obtain ⟨j, s, x, q1, q2, q3, q4, q5⟩ := hi.2.2.2 v _ hv (List.getElem?_eq_getElem hlv)
    refine ⟨j, sgN (sgv A e (ldr A e k) s) k, q1, by unfold frm; rw [List.getElem?_map, q2]; rfl, sgv A e (ldr A e k) s, small s (List.mem_of_getElem? q2), rfl, x, cO (A (4*s+x)), q3, ?_, ?_⟩
    · have := hi.1 s (List.mem_of_getElem? q2)
      exact (okA_arr hn (hA (4*s+x) (by omega)) q4).2.2.2
    · unfold sgv
      rw [if_neg q4, q5, idx_at hi.2.1 (List.getElem?_eq_getElem hlv)]
  · intro j N v hj hm
    obtain ⟨s, hs, eN⟩ := at' j N hj
    obtain ⟨f, hf, ef, x, o, hx, ho, hv⟩ := hm
    have hs' := List.mem_of_getElem? hs
    have := sgN_inj k (fun y hy => ⟨hf y hy, small s hs' y hy⟩) (by rw [← ef, eN]) x hx
    rw [hv] at this
    unfold sgv at this
    by_cases z : A (4*s+x) = -1
    · rw [if_pos z] at this; omega
    · rw [if_neg z] at this
      have ho' := (okA_arr hn (hA (4*s+x) (by have := hi.1 s hs'; omega)) z).2.2.2
      have := (idx_lt (hc s hs' x hx z)).1
      rw [len]
      omega
/-- a form in four longs stands for a machine -/
def isForm (n k : Nat) (A : Nat → Int32) (F : Nat → Int64) : Prop := ∃ e, St n k A e ∧ ∀ i, i < 4 → F i = lN (pk2 (frm A e k) i)
theorem pk2_lt {k : Nat} {l : List Nat} (h : okL k l) (i : Nat) : pk2 l i < 2^63 := by
  have g : ∀ j, l.getD j 0 < 268435456 := by
    intro j
    rcases Nat.lt_or_ge j l.length with z | z
    · exact h.2.2.1 _ (List.mem_of_getElem? (lst_get z))
    · rw [List.getD_eq_getElem?_getD, List.getElem?_eq_none z]; decide
  have a := g (2*i)
  have b := g (2*i+1)
  unfold pk2
  split
  · omega
  · split <;> omega
theorem form_alk {n k : Nat} (h1 : 1 ≤ n) (hn : n ≤ 8) (hk : k ≤ 4) {A B : Nat → Int32} (hA : rowA n A) (hB : rowA n B) {F G : Nat → Int64} (hF : isForm n k A F) (hG : isForm n k B G) : (∀ i, i < 4 → F i = G i) ↔ alk k A B := by
  obtain ⟨eA, sA, fA⟩ := hF
  obtain ⟨eB, sB, fB⟩ := hG
  have oA := frm_ok h1 hn hk hA eA
  have oB := frm_ok h1 hn hk hB eB
  constructor
  · intro h
    refine alk_of_frm h1 hn hk hA hB sA sB (pk_inj oA oB (fun i hi => ?_))
    have := h i hi
    rw [fA i hi, fB i hi] at this
    exact (pk_lEQ (pk2_lt oA i) (pk2_lt oB i)).mp this
  · intro h i hi
    rw [fA i hi, fB i hi, frm_of_alk h1 hn hk hA hB sA sB h]
