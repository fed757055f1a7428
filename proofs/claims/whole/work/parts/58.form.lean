/-! the form of a machine: leaders of groups, in the order in which they are met -/
def St (n k : Nat) (A : Nat → Int32) (e : Nat → Nat) : Prop := (∀ s t, s < n → t < n → e s = e t → ∀ x, x < k → sk (A (4*s+x)) (A (4*t+x)) ∧ (A (4*s+x) ≠ -1 → e (cT (A (4*s+x))) = e (cT (A (4*t+x))))) ∧ ∀ R, Bi k A A R → ∀ s t, s < n → t < n → R s t → e s = e t
def addL (e : Nat → Nat) (L : List Nat) (t : Nat) : List Nat := if L.any (fun r => e r == e t) then L else L ++ [t]
def innL (A : Nat → Int32) (e : Nat → Nat) (s : Nat) : Nat → Nat → List Nat → List Nat
  | 0, _, L => L
  | j + 1, x, L => innL A e s j (x+1) (if A (4*s+x) = -1 then L else addL e L (cT (A (4*s+x))))
def bfsL (A : Nat → Int32) (e : Nat → Nat) (k : Nat) : Nat → Nat → List Nat → List Nat
  | 0, _, L => L
  | m + 1, i, L => match L[i]? with
    | none => L
    | some s => bfsL A e k m (i+1) (innL A e s k 0 L)
def ldr (A : Nat → Int32) (e : Nat → Nat) (k : Nat) : List Nat := bfsL A e k 8 0 [0]
def idx (e : Nat → Nat) (L : List Nat) (t : Nat) : Nat := L.findIdx (fun r => e r == e t)
def sgv (A : Nat → Int32) (e : Nat → Nat) (L : List Nat) (s x : Nat) : Nat := if A (4*s+x) = -1 then 0 else 1 + (10 * idx e L (cT (A (4*s+x))) + cO (A (4*s+x)))
def sgN (v : Nat → Nat) : Nat → Nat
  | 0 => 0
  | x + 1 => sgN v x * 128 + v x
def frm (A : Nat → Int32) (e : Nat → Nat) (k : Nat) : List Nat := (ldr A e k).map (fun s => sgN (sgv A e (ldr A e k) s) k)
theorem sk_sy {a b : Int32} (h : sk a b) : sk b a := by
  rcases h with ⟨p, q⟩ | ⟨p, q, r⟩
  · exact Or.inl ⟨q, p⟩
  · exact Or.inr ⟨q, p, r.symm⟩
theorem sk_tr {a b c : Int32} (h : sk a b) (h' : sk b c) : sk a c := by
  rcases h with ⟨p, q⟩ | ⟨p, q, r⟩
  · rcases h' with ⟨p', q'⟩ | ⟨p', q', r'⟩
    · exact Or.inl ⟨p, q'⟩
    · exact absurd q p'
  · rcases h' with ⟨p', q'⟩ | ⟨p', q', r'⟩
    · exact absurd p' q
    · exact Or.inr ⟨p, q', r.trans r'⟩
theorem sk_ne {a b : Int32} (h : sk a b) (ha : a ≠ -1) : b ≠ -1 := by
  rcases h with ⟨p, q⟩ | ⟨p, q, r⟩
  · exact absurd p ha
  · exact q
/-! alike machines have the same form -/
section Step
variable {n k : Nat} {A B : Nat → Int32} {eA eB : Nat → Nat} {R : Nat → Nat → Prop}
def RR' (n : Nat) (R : Nat → Nat → Prop) (a b : Nat) : Prop := R a b ∧ a < n ∧ b < n
theorem bi_rest (hn : n ≤ 8) (hk : k ≤ 4) (hA : rowA n A) (hB : rowA n B) (h : Bi k A B R) : Bi k A B (RR' n R) := by
  rintro a b ⟨hr, ha, hb⟩ x hx
  obtain ⟨h1, h2⟩ := h a b hr x hx
  refine ⟨h1, fun hc => ⟨h2 hc, ?_, ?_⟩⟩
  · exact (okA_arr hn (hA _ (by omega)) hc).2.2.1
  · exact (okA_arr hn (hB _ (by omega)) (sk_ne h1 hc)).2.2.1
theorem e_half (sA : St n k A eA) (sB : St n k B eB) (h : Bi k A B (RR' n R)) {a a' b b' : Nat} (h1 : RR' n R a b) (h2 : RR' n R a' b') (e : eA a = eA a') : eB b = eB b' := by
  refine sB.2 (fun b b' => ∃ a a', RR' n R a b ∧ RR' n R a' b' ∧ eA a = eA a') ?_ b b' h1.2.2 h2.2.2 ⟨a, a', h1, h2, e⟩
  rintro b b' ⟨a, a', h1, h2, e⟩ x hx
  obtain ⟨p1, q1⟩ := h a b h1 x hx
  obtain ⟨p2, q2⟩ := h a' b' h2 x hx
  obtain ⟨p3, q3⟩ := sA.1 a a' h1.2.1 h2.2.1 e x hx
  refine ⟨sk_tr (sk_sy p1) (sk_tr p3 p2), fun hb => ?_⟩
  have ha := sk_ne (sk_sy p1) hb
  have ha' := sk_ne p3 ha
  exact ⟨_, _, q1 ha, q2 ha', q3 ha⟩
theorem bi_flip (h : Bi k A B R) : Bi k B A (fun b a => R a b) := by
  intro b a hr x hx
  obtain ⟨h1, h2⟩ := h a b hr x hx
  exact ⟨sk_sy h1, fun hb => h2 (sk_ne (sk_sy h1) hb)⟩
theorem e_both (sA : St n k A eA) (sB : St n k B eB) (h : Bi k A B (RR' n R)) {a a' b b' : Nat} (h1 : RR' n R a b) (h2 : RR' n R a' b') : eA a = eA a' ↔ eB b = eB b' := by
  refine ⟨e_half sA sB h h1 h2, fun e => ?_⟩
  have hf : Bi k B A (RR' n (fun b a => R a b)) := by
    intro b a hr x hx
    obtain ⟨p, q⟩ := bi_flip h b a ⟨hr.1, hr.2.2, hr.2.1⟩ x hx
    exact ⟨p, fun hc => ⟨(q hc).1, (q hc).2.2, (q hc).2.1⟩⟩
  exact e_half sB sA hf (R := fun b a => R a b) ⟨h1.1, h1.2.2, h1.2.1⟩ ⟨h2.1, h2.2.2, h2.2.1⟩ e
def LR (n : Nat) (R : Nat → Nat → Prop) : List Nat → List Nat → Prop
  | [], [] => True
  | a :: l, b :: l' => RR' n R a b ∧ LR n R l l'
  | _, _ => False
theorem LR_app : ∀ {l l' : List Nat} {a b : Nat}, LR n R l l' → RR' n R a b → LR n R (l ++ [a]) (l' ++ [b])
  | [], [], _, _, _, h => ⟨h, trivial⟩
  | x :: l, y :: l', a, b, h, h' => ⟨h.1, LR_app h.2 h'⟩
  | [], _ :: _, _, _, h, _ => h.elim
  | _ :: _, [], _, _, h, _ => h.elim
theorem LR_any (hE : ∀ a a' b b', RR' n R a b → RR' n R a' b' → (eA a = eA a' ↔ eB b = eB b')) {t t' : Nat} (ht : RR' n R t t') : ∀ {l l' : List Nat}, LR n R l l' → l.any (fun r => eA r == eA t) = l'.any (fun r => eB r == eB t')
  | [], [], _ => rfl
  | x :: l, y :: l', h => by
    have e : (eA x == eA t) = (eB y == eB t') := by
      rw [Bool.eq_iff_iff, beq_iff_eq, beq_iff_eq]
      exact hE x t y t' h.1 ht
    rw [List.any_cons, List.any_cons, LR_any hE ht h.2, e]
  | [], _ :: _, h => h.elim
  | _ :: _, [], h => h.elim
theorem LR_idx (hE : ∀ a a' b b', RR' n R a b → RR' n R a' b' → (eA a = eA a' ↔ eB b = eB b')) {t t' : Nat} (ht : RR' n R t t') : ∀ {l l' : List Nat}, LR n R l l' → idx eA l t = idx eB l' t'
  | [], [], _ => rfl
  | x :: l, y :: l', h => by
    have e : (eA x == eA t) = (eB y == eB t') := by
      rw [Bool.eq_iff_iff, beq_iff_eq, beq_iff_eq]
      exact hE x t y t' h.1 ht
    have ih := LR_idx hE ht h.2
    unfold idx at ih ⊢
    rw [List.findIdx_cons, List.findIdx_cons, ih, e]
  | [], _ :: _, h => h.elim
  | _ :: _, [], h => h.elim
theorem LR_get : ∀ {l l' : List Nat} (i : Nat), LR n R l l' → (l[i]? = none ∧ l'[i]? = none) ∨ ∃ a b, l[i]? = some a ∧ l'[i]? = some b ∧ RR' n R a b
  | [], [], i, _ => Or.inl ⟨by simp, by simp⟩
  | x :: l, y :: l', 0, h => Or.inr ⟨x, y, rfl, rfl, h.1⟩
  | x :: l, y :: l', i + 1, h => LR_get (l := l) (l' := l') i h.2
  | [], _ :: _, _, h => h.elim
  | _ :: _, [], _, h => h.elim
theorem LR_inn (hE : ∀ a a' b b', RR' n R a b → RR' n R a' b' → (eA a = eA a' ↔ eB b = eB b')) (h : Bi k A B (RR' n R)) {s s' : Nat} (hs : RR' n R s s') : ∀ (j x : Nat) {l l' : List Nat}, x + j = k → LR n R l l' → LR n R (innL A eA s j x l) (innL B eB s' j x l')
  | 0, _, _, _, _, hl => hl
  | j + 1, x, l, l', hx, hl => by
    unfold innL
    obtain ⟨p, q⟩ := h s s' hs x (by omega)
    refine LR_inn hE h hs j (x+1) (by omega) ?_
    by_cases z : A (4*s+x) = -1
    · have z' : B (4*s'+x) = -1 := by
        rcases p with ⟨_, p⟩ | ⟨p, _⟩
        · exact p
        · exact absurd z p
      rw [if_pos z, if_pos z']
      exact hl
    · rw [if_neg z, if_neg (sk_ne p z)]
      unfold addL
      rw [LR_any hE (q z) hl]
      cases (l'.any (fun r => eB r == eB (cT (B (4*s'+x))))) with
      | true => exact hl
      | false => exact LR_app hl (q z)
theorem LR_bfs (hE : ∀ a a' b b', RR' n R a b → RR' n R a' b' → (eA a = eA a' ↔ eB b = eB b')) (h : Bi k A B (RR' n R)) : ∀ (m i : Nat) {l l' : List Nat}, LR n R l l' → LR n R (bfsL A eA k m i l) (bfsL B eB k m i l')
  | 0, _, _, _, hl => hl
  | m + 1, i, l, l', hl => by
    unfold bfsL
    rcases LR_get i hl with ⟨e1, e2⟩ | ⟨a, b, e1, e2, hr⟩
    · rw [e1, e2]; exact hl
    · rw [e1, e2]
      exact LR_bfs hE h m (i+1) (LR_inn hE h hr k 0 (by omega) hl)
theorem sgN_cg {v v' : Nat → Nat} : ∀ k, (∀ x, x < k → v x = v' x) → sgN v k = sgN v' k
  | 0, _ => rfl
  | k + 1, h => by
    unfold sgN
    rw [sgN_cg k (fun x hx => h x (by omega)), h k (by omega)]
theorem LR_map {f g : Nat → Nat} (hfg : ∀ a b, RR' n R a b → f a = g b) : ∀ {l l' : List Nat}, LR n R l l' → l.map f = l'.map g
  | [], [], _ => rfl
  | x :: l, y :: l', h => by rw [List.map_cons, List.map_cons, hfg x y h.1, LR_map hfg h.2]
  | [], _ :: _, h => h.elim
  | _ :: _, [], h => h.elim
theorem frm_of_alk (h1 : 1 ≤ n) (hn : n ≤ 8) (hk : k ≤ 4) (hA : rowA n A) (hB : rowA n B) (sA : St n k A eA) (sB : St n k B eB) (h : alk k A B) : frm A eA k = frm B eB k := by
  obtain ⟨R, h0, h⟩ := h
  have h' := bi_rest hn hk hA hB h
  have hE : ∀ a a' b b', RR' n R a b → RR' n R a' b' → (eA a = eA a' ↔ eB b = eB b') := fun a a' b b' p q => e_both sA sB h' p q
  have hl : LR n R (ldr A eA k) (ldr B eB k) := LR_bfs hE h' 8 0 ⟨⟨h0, by omega, by omega⟩, trivial⟩
  unfold frm
  refine LR_map (fun a b hr => sgN_cg k (fun x hx => ?_)) hl
  obtain ⟨p, q⟩ := h' a b hr x hx
  unfold sgv
  rcases p with ⟨p1, p2⟩ | ⟨p1, p2, p3⟩
  · rw [if_pos p1, if_pos p2]
  · rw [if_neg p1, if_neg p2, LR_idx hE (q p1) hl, p3]
end Step
/-! what the list of leaders is like -/
