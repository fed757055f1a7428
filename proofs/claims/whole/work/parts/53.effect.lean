/-! the machine of an order -/
def mO (τ : SU) : List Nat → (Nat → Int32) → (Nat → Int32)
  | [], A => A
  | x :: r, A => mO τ r (mP τ x A)
theorem mO_app (τ : SU) : ∀ (l r : List Nat) (A : Nat → Int32), mO τ (l ++ r) A = mO τ r (mO τ l A)
  | [], _, _ => rfl
  | x :: l, r, A => mO_app τ l r (mP τ x A)
theorem rowA_mO {τ : SU} (ho : okS τ) : ∀ (l : List Nat) {A : Nat → Int32}, (∀ x ∈ l, x < suF τ) → rowA (suN τ) A → rowA (suN τ) (mO τ l A)
  | [], _, _, h => h
  | x :: r, A, hl, h => rowA_mO ho r (fun y hy => hl y (List.mem_cons_of_mem _ hy)) (rowA_mP ho (hl x (List.mem_cons_self ..)) h)
theorem tk_succ {l : List Nat} {i : Nat} {x : Nat} (h : l[i]? = some x) : l.take (i+1) = l.take i ++ [x] := by
  rw [List.take_succ, h]
  rfl
theorem s_putsOrder {τ : SU} (ho : okS τ) {p : Nat} (hp : p = 7 ∨ p = 8) {M : Mem} (hM : RMS M 1 0 τ) {l : List Nat} (hl6 : l.length ≤ 6) (hl : ∀ x ∈ l, x < suF τ) (h18 : M.1 0 18 = nI l.length) (h15 : ∀ i x, l[i]? = some x → M.1 15 i = nI x) {K : Mem → Prop} (hK : ∀ M', (∀ q, q ≠ p → M'.1 q = M.1 q) → isRow M' p (mO τ l (suB τ)) → K M') : f_X6_putsOrder p M K := by
  intro G7 h7
  refine s_base' (τ := τ) (by omega) hM (fun M0 r0 e0 => ?_)
  exact lp_up (fun i (M' : Mem) => G7 (nI i) M') (fun i M' => (∀ q, q ≠ p → M'.1 q = M.1 q) ∧ isRow M' p (mO τ (l.take i) (suB τ))) l.length
    (fun M' h => h7 _ _ ⟨fun _ => hK M' h.1 (by have := h.2; rwa [List.take_length] at this), fun c => absurd (by rw [h.1 0 (by omega), h18]; exact Int32.le_refl _) c⟩)
    (fun i M' hi h ih => by
      have g : l[i]? = some (l[i]'hi) := List.getElem?_eq_getElem _
      refine h7 _ _ ⟨fun c => absurd c (by rw [h.1 0 (by omega), h18, q_le (by omega) (by omega)]; omega), fun _ => ⟨v_in (by omega) (by omega), ?_⟩⟩
      rw [q_cl (by omega), h.1 15 (by omega), h15 i _ g]
      refine s_putsOn' ho (by omega) (hl _ (List.getElem_mem hi)) (hM.fr (h.1 1 (by omega))) h.2 (fun M2 r2 e2 y e => ?_)
      rw [e, nI_1]
      refine ih M2 ⟨fun q hq => by rw [e2 q hq, h.1 q hq], ?_⟩
      rw [tk_succ g, mO_app]
      exact r2)
    0 M0 (by omega) ⟨e0, r0⟩
theorem s_frm {τ : SU} (ho : okS τ) {M : Mem} (hM : RMS M 1 0 τ) {K : Mem → Prop} (hK : ∀ M', sM M M' → isRow M' 7 (mO τ (roL τ) (suB τ)) → K M') : f_X6_findResolvedMachine M K := by
  refine s_frM ho hM (fun M1 sm th bh h15 => ?_)
  refine s_putsOrder ho (Or.inl rfl) (sm.ms hM) (l := roL τ) (by rw [roL_len]; exact onL_le τ) (fun x hx => roL_lt ho hx) (by rw [roL_len]; exact th.1) h15 (fun M2 e2 r2 => ?_)
  exact hK M2 (sm.tr ⟨fun p a b => e2 p (by omega), by rw [e2 0 (by omega)], by rw [e2 0 (by omega)]⟩) r2
theorem s_brX {τ : SU} (ho : okS τ) {X : Mem} (hX : RXS X 1 τ) {K : Mem → Prop} (hK : ∀ X', sX X X' → isRow X' 37 (mO τ (roL τ) (suB τ)) → K X') : f_X5_buildResolvedMachine 37 X K := by
  intro G18 h18
  have h6 : suF τ ≤ 6 := ho.2.2.1
  have l6 := onL_le τ
  have rl := roL_len τ
  refine s_copyRow 2 37 X _ ?_
  have hX1 : RXS (wA X 37 (fun c => if c < 32 then X.1 2 c else X.1 37 c)) 1 τ := (sX_wA (sX.rf X) (by omega) _).xs hX h6
  refine s_frX ho hX1 (fun X2 e2 h39 => ?_)
  have f2 : ∀ p, p ≠ 39 → p ≠ 37 → X2.1 p = X.1 p := fun p a b => by rw [e2 p a, wA_ne b]
  exact lp_up (fun i (X' : Mem) => G18 (nI (roL τ).length) (nI i) X') (fun i X' => (∀ q, q ≠ 37 → X'.1 q = X2.1 q) ∧ isRow X' 37 (mO τ ((roL τ).take i) (suB τ))) (roL τ).length
    (fun X' h => h18 _ _ _ ⟨fun _ => hK X' ⟨fun p hp => by rw [h.1 p (by omega), f2 p (by omega) (by omega)], by rw [h.1 33 (by omega), f2 33 (by omega) (by omega)]⟩ (by have := h.2; rwa [List.take_length] at this), fun c => absurd (Int32.le_refl _) c⟩)
    (fun i X' hi h ih => by
      have g : (roL τ)[i]? = some ((roL τ)[i]'hi) := List.getElem?_eq_getElem _
      have hx := roL_lt ho (List.getElem_mem hi)
      refine h18 _ _ _ ⟨fun c => absurd c (by rw [q_le (by omega) (by omega)]; omega), fun _ => ⟨v_in (by omega) (by omega), ?_⟩⟩
      rw [q_cl (show i < 2147483648 by omega), h.1 39 (by omega), h39 i _ g]
      refine ⟨v_in (by omega) (by omega), ?_⟩
      rw [q_cl (by omega)]
      refine s_putOn' (τ := τ) (f := (roL τ)[i]'hi) (by omega) h.2 (fun c hc => by rw [h.1 _ (by omega), f2 _ (by omega) (by omega)]; exact hX.E hx c hc) (fun X3 r3 e3 y e => ?_)
      rw [e, nI_1]
      refine ih X3 ⟨fun q hq => by rw [e3 q hq, h.1 q hq], ?_⟩
      rw [tk_succ g, mO_app]
      exact r3)
    0 X2 (by omega) ⟨fun _ _ => rfl, fun c hc => by rw [e2 37 (by omega), wA_eq]; show (if c < 32 then _ else _) = _; rw [if_pos hc]; exact hX.B c hc⟩
def eff (τ : SU) : Option (List Nat) := wt (suK τ) (mO τ (roL τ) (suB τ)) (suB τ)
theorem s_feX {τ : SU} (ho : okS τ) {X : Mem} (hX : RXS X 1 τ) {K : Mem → Prop} (hK : ∀ X', sX X X' → WO (suK τ) (eff τ) (X'.1 41) (X'.1 42) → K X') : f_X5_findEffect X K := by
  have h6 : suF τ ≤ 6 := ho.2.2.1
  refine s_brX ho hX (fun X1 sx r1 => ?_)
  have hX1 := sx.xs hX h6
  have oA := rowA_mO ho (roL τ) (fun x hx => roL_lt ho hx) (rowA_B ho)
  rw [hX1.2.1]
  refine s_search (n := suN τ) (by omega) (by omega) ho.1.2 ho.2.1.2 (fun c hc => by rw [r1 c hc]; exact oA c hc) (fun c hc => by rw [hX1.B c hc]; exact rowA_B ho c hc) (fun r X2 hr f2 w2 => ?_)
  have er : eff τ = r := by
    rw [← wt_of (m := 0) hr]
    exact (wt_cg ho.1.1 ho.1.2 ho.2.1.2 oA (rowA_B ho) r1 hX1.B).symm
  rw [← er] at w2
  exact hK X2 (sx.tr ⟨fun p hp => f2 p (by omega), by rw [f2 33 (by omega)]⟩) w2
theorem s_feM {τ : SU} (ho : okS τ) {M : Mem} (hM : RMS M 1 0 τ) {K : Int32 → Mem → Prop} (hK : ∀ v M', sM M M' → WM (eff τ) v (M'.1 13) → K v M') : f_X6_effects M K := by
  refine s_frm ho hM (fun M1 sm r1 => ?_)
  have hM1 := sm.ms hM
  refine s_base' (τ := τ) (by omega) hM1 (fun M2 r2 e2 => ?_)
  have oA := rowA_mO ho (roL τ) (fun x hx => roL_lt ho hx) (rowA_B ho)
  have r3 : isRow M2 7 (mO τ (roL τ) (suB τ)) := fun c hc => by rw [e2 7 (by omega)]; exact r1 c hc
  obtain ⟨m, hm⟩ := wt_M (k := suK τ) ho.1.1 ho.1.2 ho.2.1.2 oA (rowA_B ho) r3 r2
  refine s_findApart (n := suN τ) ho.1.2 ho.2.1.2 (by rw [e2 1 (by omega)]; exact hM1.2.1) (fun c hc => by rw [r3 c hc]; exact oA c hc) (fun c hc => by rw [r2 c hc]; exact rowA_B ho c hc) hm (fun v M3 f3 w3 => ?_)
  exact hK v M3 (sm.tr ⟨fun p a b => by rw [f3 p (by omega), e2 p (by omega)], by rw [f3 0 (by omega), e2 0 (by omega)], by rw [f3 0 (by omega), e2 0 (by omega)]⟩) w3
theorem nn_lt {x : Int32} (c : 0 ≤ x) : ¬ x < 0 := fun z => by
  rw [Int32.lt_iff_toInt_lt] at z
  rw [Int32.le_iff_toInt_le] at c
  have : (0 : Int32).toInt = 0 := rfl
  omega
theorem p_effect : LS_effect RR := by
  intro X M a1 h
  obtain ⟨τ, h1, h2, h3, h4⟩ := id h
  refine ⟨fun c => ?_, fun c => ⟨fun d => absurd d c, fun _ => ⟨rfl, h⟩⟩⟩
  have nc := nn_lt c
  refine s_feX h1.1 h1.2.1 (fun X' sx wx => ?_)
  have ref : ∀ r7 X8, (∀ v M', sM M M' → WM (eff τ) v (M'.1 13) → (v ≤ a1 → (r7 = (-5 : Int32) ∧ RR X8 M')) ∧ (¬ v ≤ a1 → (vp_in a1 82 ∧ (r7 = M'.1 13 a1.toNatClampNeg ∧ RR X8 M')))) → f_X6_effect a1 M (fun r2 M1 => r7 = r2 ∧ RR X8 M1) := by
    intro r7 X8 hh
    exact ⟨fun _ => s_feM h1.1 h1.2.2 (fun v M' sm wm => hh v M' sm wm), fun d => absurd c d⟩
  have key : ∀ v M', sM M M' → WM (eff τ) v (M'.1 13) → f_X0_letterAt a1 X' (fun r7 X8 => (v ≤ a1 → (r7 = (-5 : Int32) ∧ RR X8 M')) ∧ (¬ v ≤ a1 → (vp_in a1 82 ∧ (r7 = M'.1 13 a1.toNatClampNeg ∧ RR X8 M')))) := fun v M' sm wm => s_letter wx wm c (P := fun a b X8 M8 => a = b ∧ RR X8 M8) (fun z => ⟨rfl, h.fr sx sm⟩)
  refine ⟨fun z => absurd z nc, fun _ => ⟨fun d => ref _ _ (fun v M' sm wm => ((key v M' sm wm).2 nc).1 d), fun d => ⟨?_, ref _ _ (fun v M' sm wm => (((key v M' sm wm).2 nc).2 d).2)⟩⟩⟩
  obtain ⟨j, hj, rfl⟩ := nI_of nc
  cases hw : eff τ with
  | none =>
    rw [hw] at wx
    have wx : X'.1 41 0 = 0 := wx
    rw [wx] at d
    exact absurd c d
  | some w =>
    rw [hw] at wx
    have wx : 0 < w.length ∧ w.length ≤ 64 ∧ X'.1 41 0 = nI w.length ∧ _ := wx
    rw [wx.2.2.1, q_le (by omega) (by omega)] at d
    exact v_in (by omega) (by omega)
/-! answers to a word -/
def stM (A : Nat → Int32) (wd : Nat → Nat) : Nat → Nat
  | 0 => 0
  | i + 1 => neM A (stM A wd i) (wd i)
def ansM (A : Nat → Int32) (wd : Nat → Nat) (x : Nat) : Nat := ouM A (stM A wd x) (wd x)
theorem neM_le {n k : Nat} (hn : n ≤ 8) (hk : k ≤ 4) {A : Nat → Int32} (hA : rowA n A) {u x : Nat} (hu : u ≤ 8) (hx : x < k) : neM A u x ≤ 8 := by
  unfold neM
  by_cases z : u = 8
  · rw [if_pos z]; omega
  · rw [if_neg z]
    by_cases y : 0 ≤ A (4*u+x)
    · rw [if_pos y]
      have := (okA_arr hn (hA _ (by omega)) ((okA_nn hn (hA _ (by omega))).mp y)).2.2.1
      omega
    · rw [if_neg y]; omega
theorem stM_le {n k : Nat} (hn : n ≤ 8) (hk : k ≤ 4) {A : Nat → Int32} (hA : rowA n A) {wd : Nat → Nat} {wl : Nat} (hw : ∀ i, i < wl → wd i < k) : ∀ i, i ≤ wl → stM A wd i ≤ 8
  | 0, _ => by show 0 ≤ 8; omega
  | i + 1, h => neM_le hn hk hA (stM_le hn hk hA hw i (by omega)) (hw i (by omega))
theorem s_ansX {n k wl x : Nat} (hn : n ≤ 8) (hk : k ≤ 4) {A : Nat → Int32} (hA : rowA n A) {wd : Nat → Nat} (hwl : wl ≤ 20) (hw : ∀ i, i < wl → wd i < k) {p : Nat} {X : Mem} (hp : isRow X p A) (e5 : X.1 0 5 = nI wl) (e36 : ∀ i, i < wl → X.1 36 i = nI (wd i)) (hx : x < wl) {K : Int32 → Mem → Prop} (hK : K (nI (ansM A wd x)) X) : f_X5_answerOf p (nI x) X K := by
  intro G9 h9
  have go : ∀ (r i b : Nat), i + r = x + 1 → stM A wd i < 8 → (i = x + 1 → b = ansM A wd x) → G9 (nI x) (nI (stM A wd i)) (nI b) (nI i) X := by
    intro r
    induction r with
    | zero =>
      intro i b hi hs hb
      refine h9 _ _ _ _ _ ⟨fun _ => by rw [hb (by omega)]; exact hK, fun c => absurd (by rw [q_lt (by omega) (by omega)]; omega) c⟩
    | succ r ih =>
      intro i b hi hs hb
      refine h9 _ _ _ _ _ ⟨fun c => absurd c (by rw [q_lt (by omega) (by omega)]; omega), fun _ => ⟨fun c => absurd c (by rw [e5, q_le (by omega) (by omega)]; omega), fun _ => ⟨v_in (by omega) (by omega), ?_⟩⟩⟩
      have hwi := hw i (by omega)
      have ec : (nI (stM A wd i) * 4 + nI (wd i) : Int32) = nI (4*stM A wd i+wd i) := by show _ * nI 4 + _ = _; rw [pk_mul, nI_add, Nat.mul_comm]
      unfold f_X5_cellOf
      rw [q_cl (by omega), e36 i (by omega), ec]
      refine ⟨v_in (by omega) (by omega), fun y7 e7 => ?_⟩
      rw [q_cl (by omega), hp _ (by omega)] at e7
      have oc := hA (4*stM A wd i+wd i) (by omega)
      rw [← e7] at oc
      refine ⟨fun c => ?_, fun c => ?_⟩
      · have r1 := okA_arr hn oc c
        have nn : 0 ≤ A (4*stM A wd i+wd i) := by rw [← e7]; exact (okA_nn hn oc).mpr c
        unfold f_X5_targetOf f_X5_outputOf
        rw [r1.1, ← r1.1, r1.2.1, r1.1]
        intro y13 e13
        rw [e13, nI_1]
        have es : stM A wd (i+1) = cT y7 := by
          show neM A (stM A wd i) (wd i) = _
          unfold neM
          rw [if_neg (by omega), if_pos nn, e7]
        have eo : ouM A (stM A wd i) (wd i) = cO y7 := by
          unfold ouM
          rw [if_neg (by omega), if_pos nn, e7]
        rw [← es]
        refine ih (i+1) (cO y7) (by omega) (by rw [es]; omega) (fun z => ?_)
        rw [← eo, show i = x by omega]
        rfl
      · have nn : ¬ 0 ≤ A (4*stM A wd i+wd i) := by rw [← e7]; exact fun z => (okA_nn hn oc).mp z c
        have fin : ansM A wd x = 10 := by
          have : ∀ d, i + 1 + d ≤ x + 1 → stM A wd (i + 1 + d) = 8 := by
            intro d
            induction d with
            | zero =>
              intro _
              show neM A (stM A wd i) (wd i) = 8
              unfold neM
              rw [if_neg (by omega), if_neg nn]
            | succ d ihd =>
              intro h
              show neM A (stM A wd (i + 1 + d)) _ = 8
              rw [ihd (by omega)]
              unfold neM
              rw [if_pos rfl]
          unfold ansM
          by_cases z : x = i
          · rw [z]
            unfold ouM
            rw [if_neg (by omega), if_neg nn]
          · have := this (x - (i+1)) (by omega)
            rw [show i + 1 + (x - (i+1)) = x by omega] at this
            rw [this]
            unfold ouM
            rw [if_pos rfl]
        rw [fin] at hK
        exact hK
  exact go (x+1) 0 10 (by omega) (by show 0 < 8; omega) (fun z => by omega)
theorem s_ansM {n k wl x : Nat} (hn : n ≤ 8) (hk : k ≤ 4) {A : Nat → Int32} (hA : rowA n A) {wd : Nat → Nat} (hwl : wl ≤ 20) (hw : ∀ i, i < wl → wd i < k) {M : Mem} (hp : isRow M 7 A) (e4 : ∀ i, i < wl → M.1 4 i = nI (wd i)) (hx : x < wl) {K : Int32 → Mem → Prop} (hK : K (nI (ansM A wd x)) M) : f_X6_answerOf (nI x) M K := by
  intro G4 h4
  have oM : ∀ c, c < 32 → okA n (M.1 7 c) := fun c hc => by rw [hp c hc]; exact hA c hc
  have cg : ∀ u y, u ≤ 8 → y < 4 → ouM (M.1 7) u y = ouM A u y ∧ neM (M.1 7) u y = neM A u y := by
    intro u y hu hy
    unfold ouM neM
    by_cases z : u = 8
    · rw [if_pos z, if_pos z, if_pos z, if_pos z]; exact ⟨rfl, rfl⟩
    · rw [hp _ (by omega)]; exact ⟨rfl, rfl⟩
  have go : ∀ (r i : Nat), i + r = x → G4 (nI x) (nI (stM A wd i)) (nI i) M := by
    intro r
    induction r with
    | zero =>
      intro i hi
      have e : i = x := by omega
      subst e
      have hs := stM_le hn hk hA hw i (by omega)
      have hwi := hw i hx
      refine h4 _ _ _ _ ⟨fun _ => ⟨v_in (by omega) (by omega), ?_⟩, fun c => absurd (Int32.le_refl _) c⟩
      rw [q_cl (by omega), e4 i hx]
      refine s_output hn oM hs (by omega) (fun _ => ?_)
      rw [(cg _ _ hs (by omega)).1]
      exact hK
    | succ r ih =>
      intro i hi
      have hs := stM_le hn hk hA hw i (by omega)
      have hwi := hw i (by omega)
      refine h4 _ _ _ _ ⟨fun c => absurd c (by rw [q_le (by omega) (by omega)]; omega), fun _ => ⟨v_in (by omega) (by omega), ?_⟩⟩
      rw [q_cl (by omega), e4 i (by omega)]
      refine s_next hn oM hs (by omega) (fun _ => ?_)
      rw [(cg _ _ hs (by omega)).2]
      intro y8 e8
      rw [e8, nI_1]
      exact ih (i+1) (by omega)
  exact go x 0 (by omega)
