/-! every allowed order has a walked one with its machine -/
def E32 (A B : Nat → Int32) : Prop := ∀ c, c < 32 → A c = B c
theorem mP_cg {τ : SU} {f : Nat} {A B : Nat → Int32} (h : E32 A B) : E32 (mP τ f A) (mP τ f B) := fun c hc => by
  unfold mP
  rw [h c hc]
theorem mO_cg {τ : SU} : ∀ (l : List Nat) {A B : Nat → Int32}, E32 A B → E32 (mO τ l A) (mO τ l B)
  | [], _, _, h => h
  | _ :: r, _, _, h => mO_cg r (mP_cg h)
theorem mP_comm {τ : SU} {a b : Nat} (h : rvl τ a b = false) (A : Nat → Int32) : E32 (mP τ b (mP τ a A)) (mP τ a (mP τ b A)) := by
  intro c hc
  have := List.any_eq_false.mp h c (List.mem_range.mpr hc)
  unfold mP
  by_cases z : suE τ a c = -2
  · by_cases y : suE τ b c = -2
    · rw [if_pos y, if_pos z, if_pos z, if_pos y]
    · rw [if_neg y, if_pos z, if_neg y]
  · by_cases y : suE τ b c = -2
    · rw [if_pos y, if_neg z, if_neg z]
    · rw [if_neg y, if_neg z]
      simp [z, y] at this
      exact this.symm
theorem alk_row {n k : Nat} (h1 : 1 ≤ n) (hn : n ≤ 8) (hk : k ≤ 4) {A B : Nat → Int32} (hA : rowA n A) (h : E32 A B) : alk k A B := by
  refine ⟨fun a b => a = b ∧ a < n, ⟨rfl, by omega⟩, ?_⟩
  rintro a b ⟨rfl, ha⟩ x hx
  rw [← h (4*a+x) (by omega)]
  refine ⟨?_, fun z => ⟨rfl, (okA_arr hn (hA (4*a+x) (by omega)) z).2.2.1⟩⟩
  by_cases z : A (4*a+x) = -1
  · exact Or.inl ⟨z, z⟩
  · exact Or.inr ⟨z, z, rfl⟩
def adj (P rv : Nat → Nat → Bool) : Option Nat → List Nat → Prop
  | _, [] => True
  | last, f :: r => rpt P rv last f = false ∧ adj P rv (some f) r
theorem adj_of {P rv : Nat → Nat → Bool} : ∀ (r : List Nat) (x : Nat), (∀ u a b v, x :: r = u ++ a :: b :: v → rpt P rv (some a) b = false) → adj P rv (some x) r
  | [], _, _ => trivial
  | y :: r, x, h => ⟨h [] x y r rfl, adj_of r y (fun u a b v e => h (x :: u) a b v (by rw [e]; rfl))⟩
def Ordr (S : Nat → Bool) (l : List Nat) : Prop := l.Nodup ∧ ∀ x, x ∈ l ↔ x < 6 ∧ S x = true
theorem ordr_tail {S : Nat → Bool} {f : Nat} {r : List Nat} (h : Ordr S (f :: r)) : Ordr (rmF S f) r := by
  obtain ⟨h1, h2⟩ := h
  have h3 := List.nodup_cons.mp h1
  refine ⟨h3.2, fun x => ?_⟩
  unfold rmF
  rw [Bool.and_eq_true, decide_eq_true_eq]
  constructor
  · intro hx
    have := (h2 x).mp (List.mem_cons_of_mem _ hx)
    exact ⟨this.1, this.2, fun e => h3.1 (e ▸ hx)⟩
  · rintro ⟨q1, q2, q3⟩
    rcases List.mem_cons.mp ((h2 x).mpr ⟨q1, q2⟩) with e | e
    · exact absurd e q3
    · exact e
theorem wlk_of {P rv : Nat → Nat → Bool} (hi : ∀ a, P a a = false) : ∀ (l : List Nat) (S : Nat → Bool) (last : Option Nat), Ordr S l → alw P l = true → adj P rv last l → wlk P rv S last l
  | [], S, _, h, _, _ => by
    show uL S = []
    cases hu : uL S with
    | nil => rfl
    | cons a t =>
      have : a ∈ uL S := by rw [hu]; simp
      have := (h.2 a).mpr (mem_uL.mp this)
      cases this
  | f :: r, S, last, h, ha, hj => by
    have ha' : (r.all (fun y => !P y f) && alw P r) = true := ha
    rw [Bool.and_eq_true] at ha'
    have hf := (h.2 f).mp (List.mem_cons_self ..)
    refine ⟨hf.1, mnl_iff.mpr ⟨hf.2, fun g hg hs => ?_⟩, hj.1, wlk_of hi r (rmF S f) (some f) (ordr_tail h) ha'.2 hj.2⟩
    rcases List.mem_cons.mp ((h.2 g).mpr ⟨hg, hs⟩) with e | e
    · rw [e]; exact hi f
    · have := List.all_eq_true.mp ha'.1 g e
      simpa using this
theorem of_wlk {P rv : Nat → Nat → Bool} : ∀ (l : List Nat) (S : Nat → Bool) (last : Option Nat), wlk P rv S last l → Ordr S l ∧ alw P l = true
  | [], S, _, h => by
    have h : uL S = [] := h
    refine ⟨⟨List.nodup_nil, fun x => ⟨fun q => (by cases q), fun q => ?_⟩⟩, rfl⟩
    have := mem_uL.mpr q
    rw [h] at this
    cases this
  | f :: r, S, last, h => by
    obtain ⟨h1, h2, _, h4⟩ := h
    obtain ⟨⟨i1, i2⟩, i3⟩ := of_wlk r (rmF S f) (some f) h4
    have hm := mnl_iff.mp h2
    have mem : ∀ x, x ∈ r ↔ x < 6 ∧ S x = true ∧ x ≠ f := by
      intro x
      rw [i2 x]
      unfold rmF
      rw [Bool.and_eq_true, decide_eq_true_eq]
    refine ⟨⟨List.nodup_cons.mpr ⟨fun q => ((mem f).mp q).2.2 rfl, i1⟩, fun x => ?_⟩, ?_⟩
    · rw [List.mem_cons, mem x]
      constructor
      · rintro (rfl | q)
        · exact ⟨h1, hm.1⟩
        · exact ⟨q.1, q.2.1⟩
      · rintro ⟨q1, q2⟩
        by_cases z : x = f
        · exact Or.inl z
        · exact Or.inr ⟨q1, q2, z⟩
    · show (r.all (fun y => !P y f) && alw P r) = true
      rw [i3, Bool.and_true, List.all_eq_true]
      intro y hy
      have := (mem y).mp hy
      rw [hm.2 y this.1 this.2.1]
      rfl
def wsum : List Nat → Nat
  | [] => 0
  | x :: r => (r.length + 1) * x + wsum r
theorem wsum_swap {a b : Nat} (h : b < a) (v : List Nat) : ∀ u, wsum (u ++ b :: a :: v) < wsum (u ++ a :: b :: v)
  | [] => by
    show (v.length + 1 + 1) * b + ((v.length + 1) * a + wsum v) < (v.length + 1 + 1) * a + ((v.length + 1) * b + wsum v)
    rw [Nat.succ_mul, Nat.succ_mul (v.length + 1) a]
    omega
  | x :: u => by
    show ((u ++ b :: a :: v).length + 1) * x + wsum (u ++ b :: a :: v) < ((u ++ a :: b :: v).length + 1) * x + wsum (u ++ a :: b :: v)
    have := wsum_swap h v u
    have e : (u ++ b :: a :: v).length = (u ++ a :: b :: v).length := by simp
    rw [e]
    omega
theorem alw_swap {P : Nat → Nat → Bool} {a b : Nat} (h : P a b = false) (v : List Nat) : ∀ u, alw P (u ++ a :: b :: v) = true → alw P (u ++ b :: a :: v) = true
  | [], hh => by
    have hh : ((b :: v).all (fun y => !P y a) && (v.all (fun y => !P y b) && alw P v)) = true := hh
    show ((a :: v).all (fun y => !P y b) && (v.all (fun y => !P y a) && alw P v)) = true
    rw [List.all_cons] at hh ⊢
    simp only [Bool.and_eq_true] at hh ⊢
    exact ⟨⟨by rw [h]; rfl, hh.2.1⟩, hh.1.2, hh.2.2⟩
  | x :: u, hh => by
    have hh : ((u ++ a :: b :: v).all (fun y => !P y x) && alw P (u ++ a :: b :: v)) = true := hh
    show ((u ++ b :: a :: v).all (fun y => !P y x) && alw P (u ++ b :: a :: v)) = true
    rw [Bool.and_eq_true] at hh ⊢
    refine ⟨List.all_eq_true.mpr (fun y hy => List.all_eq_true.mp hh.1 y ?_), alw_swap h v u hh.2⟩
    simp only [List.mem_append, List.mem_cons] at hy ⊢
    rcases hy with q | q | q | q
    · exact Or.inl q
    · exact Or.inr (Or.inr (Or.inl q))
    · exact Or.inr (Or.inl q)
    · exact Or.inr (Or.inr (Or.inr q))
theorem ordr_swap {S : Nat → Bool} {a b : Nat} {u v : List Nat} (h : Ordr S (u ++ a :: b :: v)) : Ordr S (u ++ b :: a :: v) := by
  have hp : (u ++ a :: b :: v).Perm (u ++ b :: a :: v) := List.Perm.append_left u (List.Perm.swap b a v)
  exact ⟨hp.nodup_iff.mp h.1, fun x => by rw [← hp.mem_iff]; exact h.2 x⟩
theorem walk_ex {τ : SU} {P : Nat → Nat → Bool} (hi : ∀ a, P a a = false) {S : Nat → Bool} (A : Nat → Int32) : ∀ (w : Nat) (l : List Nat), wsum l ≤ w → Ordr S l → alw P l = true → ∃ l', wlk P (rvl τ) S none l' ∧ E32 (mO τ l A) (mO τ l' A) := by
  intro w
  induction w with
  | zero =>
    intro l hw ho ha
    by_cases hb : ∃ u a b v, l = u ++ a :: b :: v ∧ rpt P (rvl τ) (some a) b = true
    · obtain ⟨u, a, b, v, e, hr⟩ := hb
      have hr' : (decide (b < a) && (!rvl τ a b && !P a b)) = true := hr
      simp only [Bool.and_eq_true, decide_eq_true_eq] at hr'
      have := wsum_swap hr'.1 v u
      rw [← e] at this
      omega
    · refine ⟨l, wlk_of hi l S none ho ha ?_, fun _ _ => rfl⟩
      cases l with
      | nil => trivial
      | cons x r =>
        refine ⟨rfl, adj_of r x (fun u a b v e => ?_)⟩
        cases hr : rpt P (rvl τ) (some a) b with
        | false => rfl
        | true => exact absurd ⟨u, a, b, v, e, hr⟩ hb
  | succ w ih =>
    intro l hw ho ha
    by_cases hb : ∃ u a b v, l = u ++ a :: b :: v ∧ rpt P (rvl τ) (some a) b = true
    · obtain ⟨u, a, b, v, e, hr⟩ := hb
      have hr' : (decide (b < a) && (!rvl τ a b && !P a b)) = true := hr
      simp only [Bool.and_eq_true, decide_eq_true_eq] at hr'
      have hlt := wsum_swap hr'.1 v u
      rw [← e] at hlt
      rw [e] at ho ha
      obtain ⟨l', h1, h2⟩ := ih (u ++ b :: a :: v) (by omega) (ordr_swap ho) (alw_swap (by simpa using hr'.2.2) v u ha)
      refine ⟨l', h1, fun c hc => ?_⟩
      rw [← h2 c hc, e, mO_app, mO_app]
      exact mO_cg v (mP_comm (by simpa using hr'.2.1) _) c hc
    · refine ⟨l, wlk_of hi l S none ho ha ?_, fun _ _ => rfl⟩
      cases l with
      | nil => trivial
      | cons x r =>
        refine ⟨rfl, adj_of r x (fun u a b v e => ?_)⟩
        cases hr : rpt P (rvl τ) (some a) b with
        | false => rfl
        | true => exact absurd ⟨u, a, b, v, e, hr⟩ hb
/-! the reference's numbering gives every order, and only orders -/
theorem er_nd {U : List Nat} {q : Nat} (h : U.Nodup) : (U.eraseIdx q).Nodup := h.sublist (List.eraseIdx_sublist U q)
theorem dec_nd : ∀ (n : Nat) (U : List Nat) (c : Nat), U.length = n → U.Nodup → c < fct n → (dec n U c).Nodup
  | 0, _, _, _, _, _ => List.nodup_nil
  | n + 1, U, c, hU, hn, hc => by
    have fp := fct_pos n
    have hq : c / fct n < n + 1 := by
      rw [Nat.div_lt_iff_lt_mul fp, Nat.mul_comm]
      exact hc
    have hr : c % fct n < fct n := Nat.mod_lt _ fp
    have hl := len_er hU hq
    refine List.nodup_cons.mpr ⟨fun hm => ?_, dec_nd n _ _ hl (er_nd hn) hr⟩
    rw [dec_mem n _ _ hl hr] at hm
    have e : U = U.take (c / fct n) ++ U.getD (c / fct n) 0 :: U.drop (c / fct n + 1) := by
      conv => lhs; rw [← List.take_append_drop (c / fct n) U, List.drop_eq_getElem_cons (by omega)]
      rw [List.getD_eq_getElem?_getD, List.getElem?_eq_getElem (by omega)]
      rfl
    rw [List.eraseIdx_eq_take_drop_succ] at hm
    rw [e] at hn
    have h1 := List.nodup_append.mp hn
    have h2 := List.nodup_cons.mp h1.2.1
    rcases List.mem_append.mp hm with q | q
    · exact h1.2.2 _ q _ (List.mem_cons_self ..) rfl
    · exact h2.1 q
theorem dec_ex : ∀ (n : Nat) (U l : List Nat), U.length = n → U.Nodup → l.Nodup → (∀ x, x ∈ l ↔ x ∈ U) → ∃ c, c < fct n ∧ dec n U c = l
  | 0, U, l, hU, _, _, hm => ⟨0, by decide, by
      rw [List.eq_nil_of_length_eq_zero hU] at hm
      cases l with
      | nil => rfl
      | cons a t => have := (hm a).mp (by simp); cases this⟩
  | n + 1, U, l, hU, hn, hl, hm => by
    cases l with
    | nil =>
      cases U with
      | nil => cases hU
      | cons a t => have := (hm a).mpr (by simp); cases this
    | cons f r =>
      have hf : f ∈ U := (hm f).mp (by simp)
      obtain ⟨s, t, e⟩ := List.append_of_mem hf
      subst e
      have hq : s.length < n + 1 := by rw [← hU]; simp
      have hl2 := List.nodup_cons.mp hl
      have hnd := er_nd (q := s.length) hn
      have hle := len_er hU hq
      rw [er_mid] at hnd hle
      have hn1 := List.nodup_append.mp hn
      have hn2 := List.nodup_cons.mp hn1.2.1
      obtain ⟨c', h1, h2⟩ := dec_ex n (s ++ t) r hle hnd hl2.2 (fun x => by
        constructor
        · intro hx
          have := (hm x).mp (List.mem_cons_of_mem _ hx)
          rcases List.mem_append.mp this with q | q
          · exact List.mem_append_left _ q
          · rcases List.mem_cons.mp q with w | w
            · rw [w] at hx; exact absurd hx hl2.1
            · exact List.mem_append_right _ w
        · intro hx
          have hxf : x ≠ f := by
            intro w
            rw [w] at hx
            rcases List.mem_append.mp hx with q | q
            · exact hn1.2.2 _ q _ (List.mem_cons_self ..) rfl
            · exact hn2.1 q
          have : x ∈ s ++ f :: t := by
            rcases List.mem_append.mp hx with q | q
            · exact List.mem_append_left _ q
            · exact List.mem_append_right _ (List.mem_cons_of_mem _ q)
          rcases List.mem_cons.mp ((hm x).mpr this) with w | w
          · exact absurd w hxf
          · exact w)
      have fp := fct_pos n
      refine ⟨s.length * fct n + c', ?_, ?_⟩
      · show _ < fct n * (n+1)
        have : s.length * fct n ≤ n * fct n := Nat.mul_le_mul_right _ (by omega)
        rw [Nat.mul_add, Nat.mul_one, Nat.mul_comm (fct n) n]
        omega
      · have d1 : (s.length * fct n + c') / fct n = s.length := by rw [Nat.mul_comm, Nat.mul_add_div fp, Nat.div_eq_of_lt h1, Nat.add_zero]
        have d2 : (s.length * fct n + c') % fct n = c' := by rw [Nat.mul_comm, Nat.mul_add_mod, Nat.mod_eq_of_lt h1]
        show (s ++ f :: t).getD ((s.length * fct n + c') / fct n) 0 :: dec n ((s ++ f :: t).eraseIdx ((s.length * fct n + c') / fct n)) ((s.length * fct n + c') % fct n) = _
        rw [d1, d2, get_mid, er_mid, h2]
theorem onL_nd (τ : SU) : (onL τ).Nodup := List.nodup_range.sublist List.filter_sublist
theorem ordr_dec {τ : SU} {c : Nat} (hc : c < fct (onL τ).length) : Ordr (suO τ) (dec (onL τ).length (onL τ) c) := ⟨dec_nd _ _ c rfl (onL_nd τ) hc, fun x => by rw [dec_mem _ _ c rfl hc]; exact mem_uL⟩
theorem dec_ordr {τ : SU} {l : List Nat} (h : Ordr (suO τ) l) : ∃ c, c < fct (onL τ).length ∧ dec (onL τ).length (onL τ) c = l := dec_ex _ _ l rfl (onL_nd τ) h.1 (fun x => (h.2 x).trans mem_uL.symm)
