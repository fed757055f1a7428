/-! the class's reading of one change, stage by stage, the last one first -/
section TX
variable {X : Mem} {n k tl : Nat} {td : Nat → Nat} {K : Int32 → Mem → Prop} {G : Int32 → Mem → Prop}
def nX (G K : Int32 → Mem → Prop) (j : Nat) (r : Int32) (Z : Mem) : Prop := (¬ r = 0 → (∀ y13 : Int32, y13 = nI j + 1 → G y13 Z)) ∧ (r = 0 → (K (nI j) Z))
theorem nX_1 {j : Nat} {Z : Mem} (h : G (nI (j+1)) Z) : isB 1 ∧ nX G K j 1 Z := ⟨isB_1, fun _ y ey => by rw [ey, nI_1]; exact h, fun c => absurd c (by decide)⟩
theorem nX_0 {j : Nat} {Z : Mem} (h : K (nI j) Z) : isB 0 ∧ nX G K j 0 Z := ⟨isB_0, fun c => absurd rfl c, fun _ => h⟩
def clX (G : Int32 → Mem → Prop) (K : Int32 → Mem → Prop) : Prop := ∀ (b3 : Int32) (μ : Mem), (((μ.1 33 1) ≤ b3 → ((¬ (μ.1 33 6) = 0 → (K (μ.1 33 1) μ)) ∧ ((μ.1 33 6) = 0 → (K (-5) μ)))) ∧ (¬ (μ.1 33 1) ≤ b3 → (vp_in b3 80 ∧ (f_X4_takes (μ.1 34 (b3 : Int32).toNatClampNeg) μ (fun r10 μ11 => (¬ r10 = 0 → (∀ y13 : Int32, y13 = b3 + 1 → G y13 μ11)) ∧ (r10 = 0 → (K b3 μ11))))))) → G b3 μ
/-- a byte, or the end -/
theorem byteX (hG : clX G K) {cnt : Nat} {E : Nat → Int32} {Y : Mem} (h : bX X n k tl cnt td E Y) (ht : tl ≤ 80) {j : Nat} (hj : j ≤ tl) (he : j = tl → (¬ Y.1 33 6 = 0 → K (nI j) Y) ∧ (Y.1 33 6 = 0 → K (-5) Y)) (hb : j < tl → f_X4_takes (nI (td j)) Y (nX G K j)) : G (nI j) Y := by
  refine hG _ _ ?_
  rw [h.2.2.2.1, q_le (by omega) (by omega)]
  refine ⟨fun c => ?_, fun c => ⟨v_in (by omega) (by omega), ?_⟩⟩
  · have e : j = tl := by omega
    rw [← e]
    exact he e
  · rw [q_cl (by omega), h.2.2.2.2.2.2 j (by omega)]
    exact hb (by omega)
/-- the semicolon -/
theorem stX6 (hG : clX G K) {cnt : Nat} {E : Nat → Int32} {Y : Mem} (h : bX X n k tl cnt td E Y) (hs : Y.1 33 6 = 6) (ht : tl ≤ 80) (htd : ∀ i, i < tl → td i < 128) {j : Nat} (hj : j ≤ tl) (hok : j < tl ∧ td j = 59 → ∀ Z, bX X n k tl (cnt+1) td E Z → Z.1 33 6 = 0 → G (nI (j+1)) Z) (hbad : ¬ (j < tl ∧ td j = 59) → ∀ Z, sX X Z → K (nI j) Z) : G (nI j) Y := by
  refine byteX hG h ht hj (fun e => ⟨fun _ => hbad (by omega) Y h.1, fun c => absurd c (by rw [hs]; decide)⟩) (fun hlt => tk6 hs ?_)
  intro Z1 e1 Z2 e2
  have e59 : (59 : Int32) = nI 59 := rfl
  have hb1 : bX X n k tl cnt td E Z1 := by rw [e1]; exact bX_33 h 6 (by omega) 0
  have hb2 : bX X n k tl (cnt+1) td E Z2 := by rw [e2]; exact bX_3 hb1
  have hs2 : Z2.1 33 6 = 0 := by rw [e2, wI_at, if_neg (by omega), e1, wI_at, if_pos ⟨rfl, rfl⟩]
  have := htd j hlt
  rw [e59, q_eq (by omega) (by omega)]
  exact ⟨fun c => (nX_0 (hbad (fun z => c z.2) Z2 hb2.1)).2, fun c => (nX_1 (hok ⟨hlt, c⟩ Z2 hb2 hs2)).2⟩
/-- the output -/
theorem stX5 (hG : clX G K) {cnt : Nat} {E : Nat → Int32} {Y : Mem} (h : bX X n k tl cnt td E Y) (hs : Y.1 33 6 = 5) (ht : tl ≤ 80) (htd : ∀ i, i < tl → td i < 128) {c t : Nat} (hc : c < 32) (h8 : Y.1 33 8 = nI c) (h9 : Y.1 33 9 = nI t) {j : Nat} (hj : j ≤ tl) (hok : j < tl ∧ 48 ≤ td j ∧ td j < 58 → ∀ Z, bX X n k tl cnt td (upd E c (nI (10 * t + (td j - 48)))) Z → Z.1 33 6 = 6 → G (nI (j+1)) Z) (hbad : ¬ (j < tl ∧ 48 ≤ td j ∧ td j < 58) → ∀ Z, sX X Z → K (nI j) Z) : G (nI j) Y := by
  refine byteX hG h ht hj (fun e => ⟨fun _ => hbad (by omega) Y h.1, fun c => absurd c (by rw [hs]; decide)⟩) (fun hlt => tk5 hs ?_)
  intro y ey
  have hd := htd j hlt
  refine s_isOutput (fun q => u1 ?_) (fun q => u0 ?_)
  · obtain ⟨o, ho, eo⟩ := q
    have hh : 48 ≤ td j ∧ td j - 48 = o := by
      rcases dig48 hd with ⟨a, b⟩ | ⟨a, b⟩
      · rw [← ey, eo] at b; exact absurd b (nI_pos (by omega))
      · rw [← ey, eo, q_eq (by omega) (by omega)] at b; omega
    show vp_in (Y.1 33 8) 32 ∧ _
    rw [h8, h9, eo, arr_eq]
    refine ⟨v_in hc (by omega), fun Z8 e8 Z9 e9 => nX_1 ?_⟩
    rw [q_cl (by omega)] at e8
    refine hok ⟨hlt, by omega, by omega⟩ Z9 ?_ (by rw [e9, wI_at, if_pos ⟨rfl, rfl⟩])
    rw [e9, e8, hh.2]
    exact bX_33 (bX_35 h c _) 6 (by omega) 6
  · refine nX_0 (hbad (fun z => q ?_) Y h.1)
    rcases dig48 hd with ⟨a, b⟩ | ⟨a, b⟩
    · omega
    · exact ⟨td j - 48, by omega, by rw [ey, b]⟩
/-- the slash -/
theorem stX4 (hG : clX G K) {cnt : Nat} {E : Nat → Int32} {Y : Mem} (h : bX X n k tl cnt td E Y) (hs : Y.1 33 6 = 4) (ht : tl ≤ 80) (htd : ∀ i, i < tl → td i < 128) {c t : Nat} (h8 : Y.1 33 8 = nI c) (h9 : Y.1 33 9 = nI t) {j : Nat} (hj : j ≤ tl) (hok : j < tl ∧ td j = 47 → ∀ Z, bX X n k tl cnt td E Z → Z.1 33 6 = 5 → Z.1 33 8 = nI c → Z.1 33 9 = nI t → G (nI (j+1)) Z) (hbad : ¬ (j < tl ∧ td j = 47) → ∀ Z, sX X Z → K (nI j) Z) : G (nI j) Y := by
  refine byteX hG h ht hj (fun e => ⟨fun _ => hbad (by omega) Y h.1, fun c => absurd c (by rw [hs]; decide)⟩) (fun hlt => tk4 hs ?_)
  intro Z e
  have e47 : (47 : Int32) = nI 47 := rfl
  have hb : bX X n k tl cnt td E Z := by rw [e]; exact bX_33 h 6 (by omega) 5
  have := htd j hlt
  rw [e47, q_eq (by omega) (by omega)]
  refine ⟨fun c => (nX_0 (hbad (fun z => c z.2) Z hb.1)).2, fun c => (nX_1 (hok ⟨hlt, c⟩ Z hb ?_ ?_ ?_)).2⟩
  · rw [e, wI_at, if_pos ⟨rfl, rfl⟩]
  · rw [e, wI_at, if_neg (by omega)]; exact h8
  · rw [e, wI_at, if_neg (by omega)]; exact h9
/-- the state that the arrow leads to -/
theorem stX3 (hG : clX G K) {cnt : Nat} {E : Nat → Int32} {Y : Mem} (h : bX X n k tl cnt td E Y) (hs : Y.1 33 6 = 3) (hn : n ≤ 8) (ht : tl ≤ 80) (htd : ∀ i, i < tl → td i < 128) {c : Nat} (h8 : Y.1 33 8 = nI c) {j : Nat} (hj : j ≤ tl) (hok : j < tl ∧ 48 ≤ td j ∧ td j < 48 + n → ∀ Z, bX X n k tl cnt td E Z → Z.1 33 6 = 4 → Z.1 33 8 = nI c → Z.1 33 9 = nI (td j - 48) → G (nI (j+1)) Z) (hbad : ¬ (j < tl ∧ 48 ≤ td j ∧ td j < 48 + n) → ∀ Z, sX X Z → K (nI j) Z) : G (nI j) Y := by
  refine byteX hG h ht hj (fun e => ⟨fun _ => hbad (by omega) Y h.1, fun c => absurd c (by rw [hs]; decide)⟩) (fun hlt => tk3 hs ?_)
  intro Z1 e1 Z2 e2
  have hb : bX X n k tl cnt td E Z2 := by rw [e2, e1]; exact bX_33 (bX_33 h 9 (by omega) _) 6 (by omega) 4
  have z9 : Z2.1 33 9 = nI (td j) - 48 := by rw [e2, wI_at, if_neg (by omega), e1, wI_at, if_pos ⟨rfl, rfl⟩]
  have hd := htd j hlt
  rw [hb.2.1, z9]
  rcases dig48 hd with ⟨a, b⟩ | ⟨a, b⟩
  · exact ⟨fun _ => nX_0 (hbad (by omega) Z2 hb.1), fun c => absurd b c⟩
  · rw [b]
    refine ⟨fun c => absurd c (nI_pos (by omega)), fun _ => ?_⟩
    rw [q_le (by omega) (by omega)]
    refine ⟨fun c => nX_0 (hbad (by omega) Z2 hb.1), fun c => nX_1 (hok ⟨hlt, a, by omega⟩ Z2 hb ?_ ?_ ?_)⟩
    · rw [e2, wI_at, if_pos ⟨rfl, rfl⟩]
    · rw [e2, wI_at, if_neg (by omega), e1, wI_at, if_neg (by omega)]; exact h8
    · rw [z9, b]
/-- what is done with the arrow -/
theorem stX2 (hG : clX G K) {cnt : Nat} {E : Nat → Int32} {Y : Mem} (h : bX X n k tl cnt td E Y) (hs : Y.1 33 6 = 2) (ht : tl ≤ 80) (htd : ∀ i, i < tl → td i < 128) {c : Nat} (hc : c < 32) (h8 : Y.1 33 8 = nI c) {j : Nat} (hj : j ≤ tl) (hm : j < tl ∧ td j = 45 → ∀ Z, bX X n k tl cnt td (upd E c (-1)) Z → Z.1 33 6 = 6 → G (nI (j+1)) Z) (hg : j < tl ∧ td j = 62 → ∀ Z, bX X n k tl cnt td E Z → Z.1 33 6 = 3 → Z.1 33 8 = nI c → G (nI (j+1)) Z) (hbad : ¬ (j < tl ∧ td j = 45) → ¬ (j < tl ∧ td j = 62) → ∀ Z, sX X Z → K (nI j) Z) : G (nI j) Y := by
  refine byteX hG h ht hj (fun e => ⟨fun _ => hbad (by omega) (by omega) Y h.1, fun c => absurd c (by rw [hs]; decide)⟩) (fun hlt => tk2 hs ?_)
  have e45 : (45 : Int32) = nI 45 := rfl
  have e62 : (62 : Int32) = nI 62 := rfl
  have hd := htd j hlt
  unfold f_X4_takesKind
  rw [e45, e62, q_eq (by omega) (by omega), q_eq (by omega) (by omega), h8]
  refine ⟨fun c1 Z e => ?_, fun c1 => ⟨v_in hc (by omega), fun Z5 e5 Z6 e6 => ?_⟩⟩
  · have hb : bX X n k tl cnt td E Z := by rw [e]; exact bX_33 h 6 (by omega) 3
    refine ⟨fun c2 => nX_0 (hbad (by omega) (by omega) Z hb.1), fun c2 => nX_1 (hg ⟨hlt, c2⟩ Z hb ?_ ?_)⟩
    · rw [e, wI_at, if_pos ⟨rfl, rfl⟩]
    · rw [e, wI_at, if_neg (by omega)]; exact h8
  · rw [q_cl (by omega)] at e5
    refine nX_1 (hm ⟨hlt, c1⟩ Z6 ?_ ?_)
    · rw [e6, e5]; exact bX_33 (bX_35 h c _) 6 (by omega) 6
    · rw [e6, wI_at, if_pos ⟨rfl, rfl⟩]
/-- the letter -/
theorem stX1 (hG : clX G K) {cnt : Nat} {E : Nat → Int32} {Y : Mem} (h : bX X n k tl cnt td E Y) (hs : Y.1 33 6 = 1) (hk : k ≤ 4) (ht : tl ≤ 80) (htd : ∀ i, i < tl → td i < 128) {q : Nat} (hq : q < 8) (h7 : Y.1 33 7 = nI q) {j : Nat} (hj : j ≤ tl) (hok : j < tl ∧ 97 ≤ td j ∧ td j < 97 + k ∧ E (q * 4 + (td j - 97)) = -2 → ∀ Z, bX X n k tl cnt td E Z → Z.1 33 6 = 2 → Z.1 33 8 = nI (q * 4 + (td j - 97)) → G (nI (j+1)) Z) (hbad : ¬ (j < tl ∧ 97 ≤ td j ∧ td j < 97 + k ∧ E (q * 4 + (td j - 97)) = -2) → ∀ Z, sX X Z → K (nI j) Z) : G (nI j) Y := by
  refine byteX hG h ht hj (fun e => ⟨fun _ => hbad (by omega) Y h.1, fun c => absurd c (by rw [hs]; decide)⟩) (fun hlt => tk1 hs ?_)
  have hd := htd j hlt
  intro y ey
  rw [h.2.2.1]
  rcases dig97 hd with ⟨a, b⟩ | ⟨a, b⟩
  · rw [← ey] at b
    exact ⟨fun _ => nX_0 (hbad (by omega) Y h.1), fun c => absurd b c⟩
  · rw [b] at ey
    subst ey
    refine ⟨fun c => absurd c (nI_pos (by omega)), fun _ => ?_⟩
    rw [q_lt (by omega) (by omega)]
    refine ⟨fun c => ?_, fun c => nX_0 (hbad (by omega) Y h.1)⟩
    show ∀ Z6 : Mem, Z6 = wI Y 33 8 (Y.1 33 7 * 4 + nI (td j - 97)) → _
    rw [h7, cell_eq]
    intro Z6 e6 Z7 e7
    have hb : bX X n k tl cnt td E Z7 := by rw [e7, e6]; exact bX_33 (bX_33 h 8 (by omega) _) 6 (by omega) 2
    have z8 : Z7.1 33 8 = nI (q * 4 + (td j - 97)) := by rw [e7, wI_at, if_neg (by omega), e6, wI_at, if_pos ⟨rfl, rfl⟩]
    rw [z8]
    refine ⟨v_in (by omega) (by omega), ?_⟩
    rw [q_cl (by omega), hb.2.2.2.2.2.1 _ (by omega)]
    refine ⟨fun c2 => nX_0 (hbad (fun z => c2 z.2.2.2) Z7 hb.1), fun c2 => nX_1 (hok ⟨hlt, a, by omega, c2⟩ Z7 hb ?_ z8)⟩
    rw [e7, wI_at, if_pos ⟨rfl, rfl⟩]
/-- the state -/
theorem stX0 (hG : clX G K) {cnt : Nat} {E : Nat → Int32} {Y : Mem} (h : bX X n k tl cnt td E Y) (hs : Y.1 33 6 = 0) (hn : n ≤ 8) (ht : tl ≤ 80) (htd : ∀ i, i < tl → td i < 128) {j : Nat} (hj : j < tl) (hok : j < tl ∧ 48 ≤ td j ∧ td j < 48 + n → ∀ Z, bX X n k tl cnt td E Z → Z.1 33 6 = 1 → Z.1 33 7 = nI (td j - 48) → G (nI (j+1)) Z) (hbad : ¬ (j < tl ∧ 48 ≤ td j ∧ td j < 48 + n) → ∀ Z, sX X Z → K (nI j) Z) : G (nI j) Y := by
  refine byteX hG h ht (by omega) (fun e => absurd hj (by omega)) (fun hlt => tk0 hs ?_)
  intro Z1 e1 Z2 e2
  have hb : bX X n k tl cnt td E Z2 := by rw [e2, e1]; exact bX_33 (bX_33 h 7 (by omega) _) 6 (by omega) 1
  have z9 : Z2.1 33 7 = nI (td j) - 48 := by rw [e2, wI_at, if_neg (by omega), e1, wI_at, if_pos ⟨rfl, rfl⟩]
  have hd := htd j hlt
  rw [hb.2.1, z9]
  rcases dig48 hd with ⟨a, b⟩ | ⟨a, b⟩
  · exact ⟨fun _ => nX_0 (hbad (by omega) Z2 hb.1), fun c => absurd b c⟩
  · rw [b]
    refine ⟨fun c => absurd c (nI_pos (by omega)), fun _ => ?_⟩
    rw [q_le (by omega) (by omega)]
    refine ⟨fun c => nX_0 (hbad (by omega) Z2 hb.1), fun c => nX_1 (hok ⟨hlt, a, by omega⟩ Z2 hb ?_ ?_)⟩
    · rw [e2, wI_at, if_pos ⟨rfl, rfl⟩]
    · rw [z9, b]
/-- one change -/
theorem chgX (hG : clX G K) {cnt : Nat} {E : Nat → Int32} {Y : Mem} (h : bX X n k tl cnt td E Y) (hs : Y.1 33 6 = 0) (hn : n ≤ 8) (hk : k ≤ 4) (ht : tl ≤ 80) (htd : ∀ i, i < tl → td i < 128) {p : Nat} (hp : p < tl) (hbad : ∀ q, chg n k tl td E p = .inl q → ∀ Z, sX X Z → K (nI q) Z) (hok : ∀ p' c v, chg n k tl td E p = .inr (p', c, v) → ∀ Z, bX X n k tl (cnt+1) td (upd E c v) Z → Z.1 33 6 = 0 → G (nI p') Z) : G (nI p) Y := by
  unfold chg at hbad hok
  refine stX0 hG h hs hn ht htd hp (fun c0 Z0 b0 s0 q7 => ?_) (fun c0 => by rw [if_neg c0] at hbad; exact hbad p rfl)
  rw [if_pos c0] at hbad hok
  refine stX1 hG b0 s0 hk ht htd (q := td p - 48) (by omega) q7 (by omega) (fun c1 Z1 b1 s1 q8 => ?_) (fun c1 => by rw [if_neg c1] at hbad; exact hbad _ rfl)
  rw [if_pos c1] at hbad hok
  refine stX2 hG b1 s1 ht htd (c := (td p - 48) * 4 + (td (p+1) - 97)) (by omega) q8 (by omega) (fun c2 Z2 b2 s2 => ?_) (fun c2 Z2 b2 s2 q82 => ?_) (fun c2 c3 => by rw [if_neg c2, if_neg c3] at hbad; exact hbad _ rfl)
  · rw [if_pos c2] at hbad hok
    unfold chF at hbad hok
    refine stX6 hG b2 s2 ht htd (by omega) (fun c6 Z6 b6 s6 => ?_) (fun c6 => by rw [if_neg c6] at hbad; exact hbad _ rfl)
    rw [if_pos c6] at hok
    exact hok _ _ _ rfl Z6 b6 s6
  · have c2 : p + 2 < tl ∧ td (p+2) = 62 := c2
    have c2' : ¬ (p + 2 < tl ∧ td (p+2) = 45) := by omega
    rw [if_neg c2', if_pos c2] at hbad hok
    refine stX3 hG b2 s2 hn ht htd q82 (by omega) (fun c3 Z3 b3 s3 q83 q93 => ?_) (fun c3 => by rw [if_neg c3] at hbad; exact hbad _ rfl)
    rw [if_pos c3] at hbad hok
    refine stX4 hG b3 s3 ht htd q83 q93 (by omega) (fun c4 Z4 b4 s4 q84 q94 => ?_) (fun c4 => by rw [if_neg c4] at hbad; exact hbad _ rfl)
    rw [if_pos c4] at hbad hok
    refine stX5 hG b4 s4 ht htd (c := (td p - 48) * 4 + (td (p+1) - 97)) (by omega) q84 q94 (by omega) (fun c5 Z5 b5 s5 => ?_) (fun c5 => by rw [if_neg c5] at hbad; exact hbad _ rfl)
    rw [if_pos c5] at hbad hok
    unfold chF at hbad hok
    refine stX6 hG b5 s5 ht htd (by omega) (fun c6 Z6 b6 s6 => ?_) (fun c6 => by rw [if_neg c6] at hbad; exact hbad _ rfl)
    rw [if_pos c6] at hok
    exact hok _ _ _ rfl Z6 b6 s6
/-- the whole text -/
theorem txtX (hG : clX G K) (hn : n ≤ 8) (hk : k ≤ 4) (ht : tl ≤ 80) (htd : ∀ i, i < tl → td i < 128) : ∀ (m : Nat) (E : Nat → Int32) (p cnt : Nat) (Y : Mem), tl < p + m → p ≤ tl → bX X n k tl cnt td E Y → Y.1 33 6 = 0 → (∀ q, txt n k tl td m E p cnt = .inl q → ∀ Z, sX X Z → K (nI q) Z) → (∀ E' cnt', txt n k tl td m E p cnt = .inr (E', cnt') → ∀ Z, bX X n k tl cnt' td E' Z → K (-5) Z) → G (nI p) Y
  | 0, E, p, cnt, Y, h1, h2, h3, h4, h5, h6 => absurd h1 (by omega)
  | m + 1, E, p, cnt, Y, h1, h2, h3, h4, h5, h6 => by
    unfold txt at h5 h6
    by_cases e : tl ≤ p
    · rw [if_pos e] at h6
      refine byteX hG h3 ht h2 (fun _ => ⟨fun c => absurd h4 c, fun _ => h6 E cnt rfl Y h3⟩) (fun c => absurd c (by omega))
    · rw [if_neg e] at h5 h6
      refine chgX hG h3 h4 hn hk ht htd (by omega) (fun q hq => ?_) (fun p' c v hc Z hZ hs => ?_)
      · rw [hq] at h5
        exact h5 q rfl
      · rw [hc] at h5 h6
        have := chg_ok hn hk hc
        exact txtX hG hn hk ht htd m (upd E c v) p' (cnt+1) Z (by omega) (by omega) hZ hs h5 h6
end TX
theorem s_parse {X : Mem} {n k tl : Nat} {td : Nat → Nat} {K : Int32 → Mem → Prop} (hn : n ≤ 8) (hk : k ≤ 4) (ht : tl ≤ 80) (htd : ∀ i, i < tl → td i < 128) (e1 : X.1 33 1 = nI tl) (e2 : ∀ i, i < tl → X.1 34 i = nI (td i)) (hbad : ∀ q, txt n k tl td 81 (fun _ => -2) 0 0 = .inl q → ∀ Z, sX X Z → K (nI q) Z) (hok : ∀ E cnt, txt n k tl td 81 (fun _ => -2) 0 0 = .inr (E, cnt) → ∀ Z, bX X n k tl cnt td E Z → K (-5) Z) : f_X4_parse (nI n) (nI k) X K := by
  intro G hG X1 f1 X2 f2 X3 f3 X4 f4
  refine s_fill _ _ _ _ _ (by decide) ?_
  refine txtX (G := G) (K := K) (X := X) hG hn hk ht htd 81 (fun _ => -2) 0 0 _ (by omega) (by omega) ?_ ?_ hbad hok
  · subst f4; subst f3; subst f2; subst f1
    refine ⟨sX_wA (sX_33 (sX_33 (sX_33 (sX_33 (sX.rf X) (by omega) _) (by omega) _) (by omega) _) (by omega) _) (Or.inr rfl) _, ?_, ?_, ?_, ?_, fun c hc => ?_, fun i hi => ?_⟩
    · rw [wA_ne (by omega), wI_at, if_neg (by omega), wI_at, if_neg (by omega), wI_at, if_neg (by omega), wI_at, if_pos ⟨rfl, rfl⟩]
    · rw [wA_ne (by omega), wI_at, if_neg (by omega), wI_at, if_neg (by omega), wI_at, if_pos ⟨rfl, rfl⟩]
    · rw [wA_ne (by omega), wI_at, if_neg (by omega), wI_at, if_neg (by omega), wI_at, if_neg (by omega), wI_at, if_neg (by omega)]; exact e1
    · rw [wA_ne (by omega), wI_at, if_pos ⟨rfl, rfl⟩]; rfl
    · rw [wA_eq, if_pos hc]
    · rw [wA_ne (by omega), wI_row (by omega), wI_row (by omega), wI_row (by omega), wI_row (by omega)]; exact e2 i hi
  · subst f4; subst f3
    rw [wA_ne (by omega), wI_at, if_neg (by omega), wI_at, if_pos ⟨rfl, rfl⟩]
