/-! taking a form -/
theorem or28 {a b : Nat} (ha : a < 268435456) (hb : b < 268435456) : (lN a <<< ((28 : Int32).toInt64 &&& 63)) ||| lN b = lN (a * 268435456 + b) := by
  apply Int64.toBitVec_inj.mp
  apply BitVec.eq_of_toNat_eq
  have tn : ∀ n, n < 2^64 → (lN n).toBitVec.toNat = n := fun n h => Nat.mod_eq_of_lt h
  have sh : (lN a <<< ((28 : Int32).toInt64 &&& 63)).toBitVec.toNat = a * 268435456 := by
    rw [Int64.toBitVec_shiftLeft]
    have e : ((28 : Int32).toInt64 &&& 63).toBitVec.smod 64 = 28#64 := by decide
    rw [e, BitVec.shiftLeft_eq', BitVec.toNat_shiftLeft, tn a (by omega)]
    rw [show (28#64).toNat = 28 from rfl, Nat.shiftLeft_eq]
    omega
  rw [Int64.toBitVec_or, BitVec.toNat_or, sh, tn b (by omega), tn _ (by omega)]
  have := Nat.two_pow_add_eq_or_of_lt (i := 28) hb a
  rw [show a * 268435456 = 2^28 * a by omega, ← this]
theorem s_fillL (p n : Nat) (v : Int64) (μ : Mem) (K : Mem → Prop) (hn : n < 2147483648) (hK : ∀ F : Nat → Int64, (∀ i, i < n → F i = v) → K (wB μ p F)) : f_J7_fill_d0a16 p n v μ K := by
  intro G6 h6 y1 e1
  rw [e1]
  have wself : wB μ p (μ.2 p) = μ := by
    unfold wB
    ext1
    · rfl
    · funext q
      show (if q = p then μ.2 p else μ.2 q) = μ.2 q
      by_cases z : q = p
      · rw [if_pos z, z]
      · rw [if_neg z]
  have wJB : ∀ F k x, wJ (wB μ p F) p k x = wB μ p (vp_updL F k x) := by
    intro F k x
    unfold wJ wB
    ext1
    · rfl
    · funext q
      show (if q = p then vp_updL (if p = p then F else μ.2 p) k x else (if q = p then F else μ.2 q)) = _
      by_cases z : q = p
      · rw [if_pos z, if_pos rfl]; show _ = if q = p then _ else _; rw [if_pos z]
      · rw [if_neg z, if_neg z]; show _ = if q = p then _ else _; rw [if_neg z]
  have key := lp_up (fun i (F : Nat → Int64) => G6 v (nI i) (nI n) (wB μ p F)) (fun i F => ∀ j, j < i → F j = v) n
    (fun F hF => h6 _ _ _ _ ⟨fun _ => hK F hF, fun c => absurd (Int32.le_refl _) c⟩)
    (fun i F hi hF ih => by
      refine h6 _ _ _ _ ⟨fun c => absurd c (by rw [q_le (by omega) (by omega)]; omega), fun _ => ⟨v_in hi (by omega), fun μ4 e4 y e => ?_⟩⟩
      rw [e, nI_1]
      rw [q_cl (by omega), wJB] at e4
      rw [e4]
      refine ih _ (fun j hj => ?_)
      show (if j = i then v else F j) = v
      by_cases z : j = i
      · rw [if_pos z]
      · rw [if_neg z]; exact hF j (by omega))
    0 (μ.2 p) (by omega) (fun j hj => by omega)
  rw [wself] at key
  exact key
theorem pk2_step {l : List Nat} {i N : Nat} (h : l[i]? = some N) (j : Nat) : pk2 (l.take (i+1)) j = if j = i / 2 then pk2 (l.take i) j * 268435456 + N else pk2 (l.take i) j := by
  have hl : i < l.length := by
    rcases Nat.lt_or_ge i l.length with z | z
    · exact z
    · rw [List.getElem?_eq_none z] at h; cases h
  have g : ∀ m t, t < m → (l.take m).getD t 0 = l.getD t 0 := by
    intro m t ht
    rw [List.getD_eq_getElem?_getD, List.getD_eq_getElem?_getD, List.getElem?_take, if_pos ht]
  have len : ∀ m, m ≤ l.length → (l.take m).length = m := fun m hm => by rw [List.length_take]; omega
  have gN : l.getD i 0 = N := by rw [List.getD_eq_getElem?_getD, h]; rfl
  unfold pk2
  rw [len (i+1) (by omega), len i (by omega)]
  by_cases z : j = i / 2
  · rw [if_pos z]
    by_cases w : 2*j = i
    · rw [if_neg (by omega), if_pos (by omega), if_neg (by omega), if_neg (by omega), g _ _ (by omega), w, gN]
      omega
    · rw [if_pos (by omega), if_neg (by omega), if_pos (by omega), g _ _ (by omega), g _ _ (by omega), g _ _ (by omega), show 2*j+1 = i by omega, gN]
  · rw [if_neg z]
    by_cases w : 2*j+1 < i
    · rw [if_pos (by omega), if_pos w, g _ _ (by omega), g _ _ (by omega), g _ _ (by omega), g _ _ (by omega)]
    · rw [if_neg (by omega), if_neg w, if_neg (by omega), if_neg (by omega)]
theorem s_take {n k p : Nat} (h1 : 1 ≤ n) (hn : n ≤ 8) (hk : k ≤ 4) (hp : 57 < p) {A : Nat → Int32} (hA : rowA n A) {μ : Mem} (h0 : isRow μ p A) {K : Mem → Prop} (hK : ∀ μ', isForm n k A (μ'.2 51) → (∀ q, q < 50 ∨ 55 < q → μ'.1 q = μ.1 q) → (∀ q, q ≠ 51 → μ'.2 q = μ.2 q) → K μ') : f_X3_take p (nI n) (nI k) μ K := by
  intro G25 h25
  have tlt : ∀ s x, s < n → x < k → A (4*s+x) ≠ -1 → cT (A (4*s+x)) < n := fun s x hs hx z => (okA_arr hn (hA (4*s+x) (by omega)) z).2.2.1
  refine s_groupStates h1 hn hk ⟨by omega, by omega⟩ hA h0 (fun g μ1 st g8 r52 f1 l1 => ?_)
  refine s_numberGroups h1 hn hk ⟨by omega, by omega, by omega⟩ hA g8 (fun c hc => by rw [f1 p (by omega) (by omega)]; exact h0 c hc) r52 (fun μ2 hN f2 l2 => ?_)
  refine s_fillL 51 4 0 μ2 _ (by omega) (fun F hF => ?_)
  obtain ⟨hI, hC⟩ := ldr_ok h1 hn hk hA g
  have hL := IL_len hI
  have ok := frm_ok h1 hn hk hA g
  have len : (frm A g k).length = (ldr A g k).length := by unfold frm; rw [List.length_map]
  have fr1 : ∀ q, q < 50 ∨ 55 < q → μ2.1 q = μ.1 q := fun q hq => by rw [f2 q (by omega) (by omega) (by omega), f1 q (by omega) (by omega)]
  exact lp_up (fun i (μ' : Mem) => G25 (nI k) (nI i) μ') (fun i μ' => μ'.1 = μ2.1 ∧ (∀ q, q ≠ 51 → μ'.2 q = μ2.2 q) ∧ ∀ j, j < 4 → μ'.2 51 j = lN (pk2 ((frm A g k).take i) j)) (ldr A g k).length
    (fun μ' h => by
      refine h25 _ _ _ ⟨fun _ => hK μ' ⟨g, st, fun j hj => ?_⟩ (fun q hq => by rw [h.1]; exact fr1 q hq) (fun q hq => by rw [h.2.1 q hq, l2, l1]), fun c => absurd (by rw [h.1, hN.1]; exact Int32.le_refl _) c⟩
      rw [h.2.2 j hj, ← len, List.take_length])
    (fun i μ' hi h ih => by
      have gi : (ldr A g k)[i]? = some ((ldr A g k)[i]'hi) := List.getElem?_eq_getElem _
      generalize (ldr A g k)[i]'hi = s at gi
      have hs := hI.1 s (List.mem_of_getElem? gi)
      have gf : (frm A g k)[i]? = some (sgN (sgv A g (ldr A g k) s) k) := by unfold frm; rw [List.getElem?_map, gi]; rfl
      refine h25 _ _ _ ⟨fun c => absurd c (by rw [h.1, hN.1, q_le (by omega) (by omega)]; omega), fun _ => ⟨v_in (by omega) (by omega), ?_⟩⟩
      rw [q_cl (by omega), h.1, hN.2.1 i s gi]
      have e2 : (nI i / 2 : Int32) = nI (i/2) := pk_div (d := 2) (by omega) (by omega) (by omega)
      rw [e2]
      refine s_sig (n := n) (g := idx g (ldr A g k)) hn hk hA (fun c hc => by rw [h.1, fr1 p (by omega)]; exact h0 c hc) hs (fun x hx z => ?_) ⟨v_in (by omega) (by omega), v_in (by omega) (by omega), fun μ13 e13 y e => ?_⟩
      · obtain ⟨r, hr, he⟩ := hC s (List.mem_of_getElem? gi) x hx z
        have ha : (ldr A g k).any (fun r => g r == g (cT (A (4*s+x)))) = true := List.any_eq_true.mpr ⟨r, hr, beq_iff_eq.mpr he⟩
        have := any_idx ha
        refine ⟨?_, by omega⟩
        rw [h.1, hN.2.2 _ (tlt s x hs hx z), ha]
        rfl
      · rw [e, nI_1]
        have eN : sgN (sgG A (idx g (ldr A g k)) s) k = sgN (sgv A g (ldr A g k) s) k := rfl
        have bN := ok.2.2.1 _ (List.mem_of_getElem? gf)
        rw [q_cl (by omega), eN, nI_l (by omega)] at e13
        refine ih μ13 ⟨by rw [e13]; exact h.1, fun q hq => ?_, fun j hj => ?_⟩
        · rw [e13]
          show (wB μ' 51 _).2 q = _
          rw [wB_ne hq]; exact h.2.1 q hq
        · rw [e13, pk2_step gf]
          show (wB μ' 51 _).2 51 j = _
          rw [wB_eq]
          show (if j = i / 2 then _ else μ'.2 51 j) = _
          by_cases z : j = i / 2
          · rw [if_pos z, if_pos z, ← z, h.2.2 j hj]
            refine or28 ?_ bN
            -- what stood there is one signature at most
            unfold pk2
            have lt : ((frm A g k).take i).length = i := by rw [List.length_take]; omega
            rw [lt, if_neg (by omega)]
            by_cases w : 2*j < i
            · rw [if_pos w]
              have : ((frm A g k).take i).getD (2*j) 0 = (frm A g k).getD (2*j) 0 := by rw [List.getD_eq_getElem?_getD, List.getD_eq_getElem?_getD, List.getElem?_take, if_pos w]
              rw [this]
              exact ok.2.2.1 _ (List.mem_of_getElem? (lst_get (by omega)))
            · rw [if_neg w]; decide
          · rw [if_neg z, if_neg z]; exact h.2.2 j hj)
    0 _ (by omega) ⟨rfl, fun q hq => wB_ne hq, fun j hj => by
      rw [wB_eq, hF j hj]
      unfold pk2
      rw [List.take_zero, if_neg (by simp), if_neg (by simp)]
      rfl⟩
