/-! the memory: for each place the ints (fields and elements) and the longs that it holds -/
abbrev Mem : Type := (Nat → Nat → Int32) × (Nat → Nat → Int64)
def wA (μ : Mem) (p : Nat) (f : Nat → Int32) : Mem := (fun q => if q = p then f else μ.1 q, μ.2)
def wB (μ : Mem) (p : Nat) (f : Nat → Int64) : Mem := (μ.1, fun q => if q = p then f else μ.2 q)
def wI (μ : Mem) (p k : Nat) (v : Int32) : Mem := wA μ p (upd (μ.1 p) k v)
def wJ (μ : Mem) (p k : Nat) (v : Int64) : Mem := wB μ p (vp_updL (μ.2 p) k v)
abbrev Shp : Type := (Nat → ClassId) → (Nat → Nat) → Nat → (Nat → Int32) → (Nat → Int64) → va_E
/-- the cells of a world, place by place -/
def wW (sh : Shp) (N : Nat) (cc : Nat → ClassId) (ad : Nat → Nat) (μ : Mem) : va_W := (List.range N).map (fun p => (ad p, sh cc ad p (μ.1 p) (μ.2 p)))
theorem wW_len {sh : Shp} {N : Nat} {cc : Nat → ClassId} {ad : Nat → Nat} {μ : Mem} : (wW sh N cc ad μ).length = N := by simp [wW]
theorem wW_at {sh : Shp} {N : Nat} {cc : Nat → ClassId} {ad : Nat → Nat} {μ : Mem} {rs : va_W} {q : Nat} (h : q < N) : (wW sh N cc ad μ ++ rs)[q]? = some (ad q, sh cc ad q (μ.1 q) (μ.2 q)) := by
  rw [List.getElem?_append_left (by rw [wW_len]; exact h)]
  simp [wW, List.getElem?_map, List.getElem?_range h]
theorem wW_set {sh : Shp} {N : Nat} {cc : Nat → ClassId} {ad : Nat → Nat} {μ μ' : Mem} {rs : va_W} {q : Nat} (h : q < N) (h1 : ∀ r, r ≠ q → μ'.1 r = μ.1 r ∧ μ'.2 r = μ.2 r) : (wW sh N cc ad μ ++ rs).set q (ad q, sh cc ad q (μ'.1 q) (μ'.2 q)) = wW sh N cc ad μ' ++ rs := by
  rw [List.set_append_left _ _ (by rw [wW_len]; exact h)]
  congr 1
  apply List.ext_getElem?
  intro i
  rw [List.getElem?_set]
  by_cases e : q = i
  · subst e
    rw [if_pos rfl, if_pos (by rw [wW_len]; exact h)]
    simp [wW, List.getElem?_map, List.getElem?_range h]
  · rw [if_neg e]
    simp only [wW, List.getElem?_map]
    by_cases hi : i < N
    · rw [List.getElem?_range hi]
      simp only [Option.map_some]
      rw [(h1 i (fun x => e x.symm)).1, (h1 i (fun x => e x.symm)).2]
    · rw [List.getElem?_eq_none (by rw [List.length_range]; omega)]
      rfl
theorem wA_eq (μ : Mem) (p : Nat) (f : Nat → Int32) : (wA μ p f).1 p = f := by simp [wA]
theorem wA_ne {μ : Mem} {p r : Nat} {f : Nat → Int32} (h : r ≠ p) : (wA μ p f).1 r = μ.1 r := by simp [wA, h]
theorem wA_2 (μ : Mem) (p : Nat) (f : Nat → Int32) : (wA μ p f).2 = μ.2 := rfl
theorem wB_eq (μ : Mem) (p : Nat) (f : Nat → Int64) : (wB μ p f).2 p = f := by simp [wB]
theorem wB_ne {μ : Mem} {p r : Nat} {f : Nat → Int64} (h : r ≠ p) : (wB μ p f).2 r = μ.2 r := by simp [wB, h]
theorem wB_1 (μ : Mem) (p : Nat) (f : Nat → Int64) : (wB μ p f).1 = μ.1 := rfl
theorem wW_setA {sh : Shp} {N : Nat} {cc : Nat → ClassId} {ad : Nat → Nat} {μ : Mem} {rs : va_W} {q : Nat} (h : q < N) (f : Nat → Int32) {x : va_E} (hx : sh cc ad q f (μ.2 q) = x) : (wW sh N cc ad μ ++ rs).set q (ad q, x) = wW sh N cc ad (wA μ q f) ++ rs := by
  rw [← wW_set (μ' := wA μ q f) h (fun r hr => ⟨wA_ne hr, rfl⟩), wA_eq, wA_2, hx]
theorem wW_setB {sh : Shp} {N : Nat} {cc : Nat → ClassId} {ad : Nat → Nat} {μ : Mem} {rs : va_W} {q : Nat} (h : q < N) (f : Nat → Int64) {x : va_E} (hx : sh cc ad q (μ.1 q) f = x) : (wW sh N cc ad μ ++ rs).set q (ad q, x) = wW sh N cc ad (wB μ q f) ++ rs := by
  rw [← wW_set (μ := μ) (μ' := wB μ q f) h (fun r hr => ⟨rfl, wB_ne hr⟩), wB_eq, wB_1, hx]
/-! what a place is -/
def isI (sh : Shp) (N q n : Nat) : Prop := q < N ∧ ∀ cc ad i j, sh cc ad q i j = .inl (cc 0, n, .inl i)
def isJ (sh : Shp) (N q n : Nat) : Prop := q < N ∧ ∀ cc ad i j, sh cc ad q i j = .inl (cc 1, n, .inr (.inl j))
def isZ (sh : Shp) (N q n : Nat) : Prop := q < N ∧ ∀ cc ad i j, sh cc ad q i j = .inl (cc 2, n, .inl i)
def isO (sh : Shp) (N q ci : Nat) (fs : (Nat → Nat) → (Nat → Int32) → List Value) : Prop := q < N ∧ ∀ cc ad i j, sh cc ad q i j = .inr (ci, fs ad i)
def isR (sh : Shp) (N q t n : Nat) (g : Nat → Nat) : Prop := q < N ∧ ∀ cc ad i j, sh cc ad q i j = .inl (cc t, n, .inr (.inr (.inr (.inr (fun x => if x < n then some (ad (g x)) else none)))))
def tyL (cc : Nat → ClassId) : List (ClassId × FieldType) := [(cc 0, .int), (cc 1, .long), (cc 2, .boolean), (cc 3, .object "FeatureClashes$Setup"), (cc 4, .array .int)]
/-- links to private methods of a nest mate -/
def nwQ : List (String × Nat × MethodName) := [("FeatureClashes$Text", 75, yX5_arrowOf), ("FeatureClashes$Text", 72, yX5_isOutput), ("FeatureClashes$Text", 68, yX5_cellOf), ("FeatureClashes$Shape", 66, yX5_arrowOf), ("FeatureClashes$Shape", 63, yX5_outputOf), ("FeatureClashes$Shape", 60, yX5_targetOf), ("FeatureClashes$Shape", 56, yX5_cellOf), ("FeatureClashes$Setup", 57, yX5_hasBit), ("FeatureClashes$Setup", 42, yX5_copyRow), ("FeatureClashes$Outcomes", 98, yX5_putOn), ("FeatureClashes$Outcomes", 91, yX5_hasBit), ("FeatureClashes$Outcomes", 57, yX5_copyRow), ("FeatureClashes$Difference", 61, yX5_outputOf), ("FeatureClashes$Difference", 57, yX5_targetOf), ("FeatureClashes$Difference", 45, yX5_cellOf)]
def NW (U : State) : Prop := ∀ (k : Nat) (q : String × Nat × MethodName), nwQ[k]? = some q → va_Nw (.methodLinkNest q.1 q.2.1 q.2.2 "FeatureClashes") U
theorem NW.warm {s U : State} (hW : s.WarmedH U.vm) (h : NW s) : NW U := fun k q hq => va_Nw.warmM hW (h k q hq)
theorem NW.same {s U : State} (hv : s.vm = U.vm) (h : NW s) : NW U := fun k q hq => va_Nw.same rfl hv (h k q hq)
/-- the world of a contract: the cells, and the tables -/
def PW (sh : Shp) (N : Nat) (D : va_G) (cc : Nat → ClassId) (A : Nat → Prop) (ad : Nat → Nat) (rs : va_W) (μ : Mem) (U : State) : Prop := va_P D vwCl (wW sh N cc ad μ ++ rs) U.heap ∧ va_K D vwCl (tyL cc) U ∧ va_D A (wW sh N cc ad μ ++ rs) ∧ NW U
theorem PW.blind {sh : Shp} {N : Nat} {D : va_G} {cc : Nat → ClassId} {A : Nat → Prop} {ad : Nat → Nat} {rs : va_W} {μ : Mem} {av : List Value} : FrameBlind (va_Pc av (PW sh N D cc A ad rs μ)) := fun a U g mk q => ⟨q.1, q.2.1, va_K.moved (u := U) (U := U.calling g mk a) (Vm.Alike.refl U.vm) q.2.2.1, q.2.2.2.1, NW.same (s := U) rfl q.2.2.2.2⟩
theorem PW.to {sh : Shp} {N : Nat} {D : va_G} {cc : Nat → ClassId} {A : Nat → Prop} {ad : Nat → Nat} {rs : va_W} {μ : Mem} {s : State} {H : Heap} (hK : va_K D vwCl (tyL cc) s) (hN : NW s) (hP : va_P D vwCl (wW sh N cc ad μ ++ rs) H) (hD : va_D A (wW sh N cc ad μ ++ rs)) (U : State) (hU : U.heap = H) (hW : s.WarmedH U.vm) : PW sh N D cc A ad rs μ U := ⟨by rw [hU]; exact hP, va_K.moved hW.alike hK, hD, hN.warm hW⟩
section ZW
variable {p : Program} {l : Launch} {e : Env} {R : Room} {s : State} {m : MethodId} {args : Array Value} {below : List Frame} {meth : Method} {c : Code} {H : Heap} {locs : List Loc} {cells slots : Nat} {Q : State → Prop}
variable {bc : ByteArray} {pc : Nat} {ls : Array Slot} {rest : List Value} {D : va_G} {A : Nat → Prop} {H0 : Heap}
variable {sh : Shp} {N : Nat} {cc : Nat → ClassId} {ad : Nat → Nat} {μ : Mem} {rs : va_W}
theorem zw_iald (hx : p.tables.exec = Jvm.exec) (hb : c.code = bc) (hK : va_K D vwCl (tyL cc) s) (hP : va_P D vwCl (wW sh N cc ad μ ++ rs) H) {q n : Nat} (hq : isI sh N q n) {i : Int32} (hin : vp_in i n) (hdg : decode bc pc = .ok (.iaload, 1))
    (kk : W p l e R s m args below meth c H locs cells slots Q (F0 m (pc + 1) ls (.int (μ.1 q i.toNatClampNeg) :: rest))) : W p l e R s m args below meth c H locs cells slots Q (F0 m pc ls (.int i :: .ref (ad q) :: rest)) :=
  va_iald hx hb hK hP q 0 (by rw [wW_at hq.1, hq.2]) rfl hin hdg kk
theorem zw_zald (hx : p.tables.exec = Jvm.exec) (hb : c.code = bc) (hK : va_K D vwCl (tyL cc) s) (hP : va_P D vwCl (wW sh N cc ad μ ++ rs) H) {q n : Nat} (hq : isZ sh N q n) {i : Int32} (hin : vp_in i n) (hdg : decode bc pc = .ok (.baload, 1))
    (kk : W p l e R s m args below meth c H locs cells slots Q (F0 m (pc + 1) ls (.int (μ.1 q i.toNatClampNeg) :: rest))) : W p l e R s m args below meth c H locs cells slots Q (F0 m pc ls (.int i :: .ref (ad q) :: rest)) :=
  va_zald hx hb hK hP q 2 (by rw [wW_at hq.1, hq.2]) rfl hin hdg kk
theorem zw_lald (hx : p.tables.exec = Jvm.exec) (hb : c.code = bc) (hK : va_K D vwCl (tyL cc) s) (hP : va_P D vwCl (wW sh N cc ad μ ++ rs) H) {q n : Nat} (hq : isJ sh N q n) {i : Int32} (hin : vp_in i n) (hdg : decode bc pc = .ok (.laload, 1))
    (kk : W p l e R s m args below meth c H locs cells slots Q (F0 m (pc + 1) ls (.long (μ.2 q i.toNatClampNeg) :: rest))) : W p l e R s m args below meth c H locs cells slots Q (F0 m pc ls (.int i :: .ref (ad q) :: rest)) :=
  va_lald hx hb hK hP q 1 (by rw [wW_at hq.1, hq.2]) rfl hin hdg kk
theorem zw_aalS (hx : p.tables.exec = Jvm.exec) (hb : c.code = bc) (hK : va_K D vwCl (tyL cc) s) (hP : va_P D vwCl (wW sh N cc ad μ ++ rs) H) {q n : Nat} {g : Nat → Nat} (hq : isR sh N q 3 n g) {i : Int32} (hin : vp_in i n) (hdg : decode bc pc = .ok (.aaload, 1))
    (kk : W p l e R s m args below meth c H locs cells slots Q (F0 m (pc + 1) ls (.ref (ad (g i.toNatClampNeg)) :: rest))) : W p l e R s m args below meth c H locs cells slots Q (F0 m pc ls (.int i :: .ref (ad q) :: rest)) := by
  have hlt : i.toNatClampNeg < n := Nat.not_le.mp fun q => hin (Or.inr q)
  refine va_aldq hx hb hK hP q 3 (by rw [wW_at hq.1, hq.2]) rfl hin hdg ?_
  rw [if_pos hlt]
  exact kk
theorem zw_aalI (hx : p.tables.exec = Jvm.exec) (hb : c.code = bc) (hK : va_K D vwCl (tyL cc) s) (hP : va_P D vwCl (wW sh N cc ad μ ++ rs) H) {q n : Nat} {g : Nat → Nat} (hq : isR sh N q 4 n g) {i : Int32} (hin : vp_in i n) (hdg : decode bc pc = .ok (.aaload, 1))
    (kk : W p l e R s m args below meth c H locs cells slots Q (F0 m (pc + 1) ls (.ref (ad (g i.toNatClampNeg)) :: rest))) : W p l e R s m args below meth c H locs cells slots Q (F0 m pc ls (.int i :: .ref (ad q) :: rest)) := by
  have hlt : i.toNatClampNeg < n := Nat.not_le.mp fun q => hin (Or.inr q)
  have ha : (wW sh N cc ad μ ++ rs)[q]? = some (ad q, .inl (cc 4, n, .inr (.inr (.inr (.inr (fun x => if x < n then some (ad (g x)) else none)))))) := by rw [wW_at hq.1, hq.2]
  have ht : (tyL cc)[4]? = some (cc 4, .array .int) := rfl
  refine W.aald (v := va_rf (if i.toNatClampNeg < n then some (ad (g i.toNatClampNeg)) else none)) (ty := .array .int) hx hb (hP q _ ha) ((hK.2 4 _ ht).1 n (fun j => va_rf (if j < n then some (ad (g j)) else none))) rfl (fun q => by cases q) (by show ¬ (i < 0 ∨ (arrV _ _ _).slots.size ≤ _); rw [arrV_size]; exact hin) (by show (arrV _ _ _).slots[_]? = _; rw [arrV_read _ _ hlt]) rfl rfl hdg ?_
  rw [if_pos hlt]
  exact kk
theorem zw_alen (hx : p.tables.exec = Jvm.exec) (hb : c.code = bc) (hK : va_K D vwCl (tyL cc) s) (hP : va_P D vwCl (wW sh N cc ad μ ++ rs) H) {q n : Nat} (hq : isI sh N q n) (hdg : decode bc pc = .ok (.arraylength, 1))
    (kk : W p l e R s m args below meth c H locs cells slots Q (F0 m (pc + 1) ls (.int (nI n) :: rest))) : W p l e R s m args below meth c H locs cells slots Q (F0 m pc ls (.ref (ad q) :: rest)) :=
  va_alen (x := (n, .inl (μ.1 q))) hx hb hK hP q 0 (by rw [wW_at hq.1, hq.2]) rfl rfl hdg kk
theorem zw_alenJ (hx : p.tables.exec = Jvm.exec) (hb : c.code = bc) (hK : va_K D vwCl (tyL cc) s) (hP : va_P D vwCl (wW sh N cc ad μ ++ rs) H) {q n : Nat} (hq : isJ sh N q n) (hdg : decode bc pc = .ok (.arraylength, 1))
    (kk : W p l e R s m args below meth c H locs cells slots Q (F0 m (pc + 1) ls (.int (nI n) :: rest))) : W p l e R s m args below meth c H locs cells slots Q (F0 m pc ls (.ref (ad q) :: rest)) :=
  va_alen (x := (n, .inr (.inl (μ.2 q)))) hx hb hK hP q 1 (by rw [wW_at hq.1, hq.2]) rfl rfl hdg kk
theorem zw_iast (hx : p.tables.exec = Jvm.exec) (hb : c.code = bc) (hK : va_K D vwCl (tyL cc) s) (hP : va_P D vwCl (wW sh N cc ad μ ++ rs) H) (hD : va_D A (wW sh N cc ad μ ++ rs)) (hS : va_S A H0 H locs) {q n : Nat} (hq : isI sh N q n) {i x : Int32} (hin : vp_in i n) (hdg : decode bc pc = .ok (.iastore, 1))
    (kk : ∀ (μ' : Mem) (H1 : Heap) (locs1 : List Loc), μ' = wI μ q i.toNatClampNeg x → va_P D vwCl (wW sh N cc ad μ' ++ rs) H1 → va_D A (wW sh N cc ad μ' ++ rs) → va_S A H0 H1 locs1 → W p l e R s m args below meth c H1 locs1 cells slots Q (F0 m (pc + 1) ls rest)) : W p l e R s m args below meth c H locs cells slots Q (F0 m pc ls (.int x :: .int i :: .ref (ad q) :: rest)) := by
  refine va_iast hx hb hK hP hD hS q 0 (by rw [wW_at hq.1, hq.2]) rfl hin hdg (fun H1 locs1 hP1 hD1 hS1 => ?_)
  rw [wW_setA hq.1 (upd (μ.1 q) i.toNatClampNeg x) (hq.2 _ _ _ _)] at hP1 hD1
  exact kk _ H1 locs1 rfl hP1 hD1 hS1
theorem zw_zast (hx : p.tables.exec = Jvm.exec) (hb : c.code = bc) (hK : va_K D vwCl (tyL cc) s) (hP : va_P D vwCl (wW sh N cc ad μ ++ rs) H) (hD : va_D A (wW sh N cc ad μ ++ rs)) (hS : va_S A H0 H locs) {q n : Nat} (hq : isZ sh N q n) {i x : Int32} (hin : vp_in i n) (hdg : decode bc pc = .ok (.bastore, 1))
    (kk : ∀ (μ' : Mem) (H1 : Heap) (locs1 : List Loc), μ' = wI μ q i.toNatClampNeg (vp_nar .boolean x) → va_P D vwCl (wW sh N cc ad μ' ++ rs) H1 → va_D A (wW sh N cc ad μ' ++ rs) → va_S A H0 H1 locs1 → W p l e R s m args below meth c H1 locs1 cells slots Q (F0 m (pc + 1) ls rest)) : W p l e R s m args below meth c H locs cells slots Q (F0 m pc ls (.int x :: .int i :: .ref (ad q) :: rest)) := by
  refine va_zast hx hb hK hP hD hS q 2 (by rw [wW_at hq.1, hq.2]) rfl hin hdg (fun H1 locs1 hP1 hD1 hS1 => ?_)
  rw [wW_setA hq.1 (upd (μ.1 q) i.toNatClampNeg (vp_nar .boolean x)) (hq.2 _ _ _ _)] at hP1 hD1
  exact kk _ H1 locs1 rfl hP1 hD1 hS1
theorem zw_last (hx : p.tables.exec = Jvm.exec) (hb : c.code = bc) (hK : va_K D vwCl (tyL cc) s) (hP : va_P D vwCl (wW sh N cc ad μ ++ rs) H) (hD : va_D A (wW sh N cc ad μ ++ rs)) (hS : va_S A H0 H locs) {q n : Nat} (hq : isJ sh N q n) {i : Int32} {x : Int64} (hin : vp_in i n) (hdg : decode bc pc = .ok (.lastore, 1))
    (kk : ∀ (μ' : Mem) (H1 : Heap) (locs1 : List Loc), μ' = wJ μ q i.toNatClampNeg x → va_P D vwCl (wW sh N cc ad μ' ++ rs) H1 → va_D A (wW sh N cc ad μ' ++ rs) → va_S A H0 H1 locs1 → W p l e R s m args below meth c H1 locs1 cells slots Q (F0 m (pc + 1) ls rest)) : W p l e R s m args below meth c H locs cells slots Q (F0 m pc ls (.long x :: .int i :: .ref (ad q) :: rest)) := by
  refine va_last hx hb hK hP hD hS q 1 (by rw [wW_at hq.1, hq.2]) rfl hin hdg (fun H1 locs1 hP1 hD1 hS1 => ?_)
  rw [wW_setB hq.1 (vp_updL (μ.2 q) i.toNatClampNeg x) (hq.2 _ _ _ _)] at hP1 hD1
  exact kk _ H1 locs1 rfl hP1 hD1 hS1
theorem zw_get (hx : p.tables.exec = Jvm.exec) (hb : c.code = bc) {own C : String} {T : u_T} {M ci index : Nat} {Ts : List Cond} (hts : ∀ w ∈ Ts, w.before args s = true) (hin : ∀ w ∈ u_ws C T M, w ∈ Ts) (hown : s.vm.findClass own = some m.cls) (hK : va_K D vwCl (tyL cc) s) (hP : va_P D vwCl (wW sh N cc ad μ ++ rs) H) {q : Nat} {fs : (Nat → Nat) → (Nat → Int32) → List Value} (hq : isO sh N q ci fs) (hc : vwCl[ci]? = some (C, T, M)) (k : Nat) (hk : k < M) (hlink : (Cond.fieldLink own index (T k).1 (T k).2.1 (T k).2.2.1).before args s = true) {v : Value} (hv : (fs ad (μ.1 q))[k]? = some v) (hdg : decode bc pc = .ok (.getfield index, 3))
    (kk : W p l e R s m args below meth c H locs cells slots Q (F0 m (pc + 3) ls (v :: rest))) : W p l e R s m args below meth c H locs cells slots Q (F0 m pc ls (.ref (ad q) :: rest)) :=
  va_get hx hb hts hin hown hK hP q (by rw [wW_at hq.1, hq.2]) hc k hk hlink (fun _ h => h) hv hdg kk
theorem zw_put (hx : p.tables.exec = Jvm.exec) (hb : c.code = bc) {own C : String} {T : u_T} {M ci index : Nat} {Ts : List Cond} (hts : ∀ w ∈ Ts, w.before args s = true) (hin : ∀ w ∈ u_ws C T M, w ∈ Ts) (ty0 : Nat → FieldType) (hty : ∀ k, k < M → parseFieldDescriptor (T k).2.2.1 = some (ty0 k)) (hnm : ∀ a, a < M → ∀ b, b < M → a ≠ b → (T a).2.1 ≠ (T b).2.1) (hown : s.vm.findClass own = some m.cls) (hK : va_K D vwCl (tyL cc) s) (hP : va_P D vwCl (wW sh N cc ad μ ++ rs) H) (hD : va_D A (wW sh N cc ad μ ++ rs)) (hS : va_S A H0 H locs) {q : Nat} {fs : (Nat → Nat) → (Nat → Int32) → List Value} (hq : isO sh N q ci fs) (hc : vwCl[ci]? = some (C, T, M)) (k : Nat) (hk : k < M) (hlink : (Cond.fieldLink own index (T k).1 (T k).2.1 (T k).2.2.1).before args s = true) (hfin : (T k).2.2.2 = false) (hd : ty0 k = .int) {x : Int32} (hl : k < (fs ad (μ.1 q)).length) (hset : (fs ad (μ.1 q)).set k (.int x) = fs ad (upd (μ.1 q) k x)) (hdg : decode bc pc = .ok (.putfield index, 3))
    (kk : ∀ (μ' : Mem) (H1 : Heap) (locs1 : List Loc), μ' = wI μ q k x → va_P D vwCl (wW sh N cc ad μ' ++ rs) H1 → va_D A (wW sh N cc ad μ' ++ rs) → va_S A H0 H1 locs1 → W p l e R s m args below meth c H1 locs1 cells slots Q (F0 m (pc + 3) ls rest)) : W p l e R s m args below meth c H locs cells slots Q (F0 m pc ls (.int x :: .ref (ad q) :: rest)) := by
  refine va_put (v := .int x) (ty := .int) hx hb hts hin ty0 hty hnm hown hK hP hD hS q (by rw [wW_at hq.1, hq.2]) hc k hk hlink (fun _ h => h) hfin (by rw [hty k hk, hd]) rfl rfl hl hdg (fun H1 locs1 hP1 hD1 hS1 => ?_)
  rw [hset, wW_setA hq.1 (upd (μ.1 q) k x) (hq.2 _ _ _ _)] at hP1 hD1
  exact kk _ H1 locs1 rfl hP1 hD1 hS1
theorem zw_copyi (hx : p.tables.exec = Jvm.exec) (hb : c.code = bc) (hml : c.maxLocals = ls.size) {own : String} {index : Nat} (hown : s.vm.findClass own = some m.cls) (hlink : (Cond.methodLink own index arraycopyName).before args s = true) (hnat : (Cond.native arraycopyName).before args s = true) (hstat : (Cond.static arraycopyName).before args s = true) (hini : (Cond.initialized "java/lang/System").before args s = true)
    (hK : va_K D vwCl (tyL cc) s) (hP : va_P D vwCl (wW sh N cc ad μ ++ rs) H) (hD : va_D A (wW sh N cc ad μ ++ rs)) (hS : va_S A H0 H locs) {q0 q1 n0 n1 : Nat} (h0 : isI sh N q0 n0) (h1 : isI sh N q1 n1) {sp dp n : Int32} (hc : (¬ sp < 0 ∧ ¬ dp < 0 ∧ ¬ n < 0) ∧ sp.toNatClampNeg + n.toNatClampNeg ≤ n0 ∧ dp.toNatClampNeg + n.toNatClampNeg ≤ n1)
    (hframes : 1 ≤ R.frames) (hlocals : (rest.map fun v => v.category).sum + (nativeFrameWords "java/lang/System" "arraycopy" 5 + 11) ≤ R.locals) (hdg : decode bc pc = .ok (.invokestatic index, 3))
    (kk : ∀ (μ' : Mem) (H1 : Heap) (locs1 : List Loc), μ' = wA μ q1 (va_cpy (μ.1 q0) (μ.1 q1) sp.toNatClampNeg dp.toNatClampNeg n.toNatClampNeg) → va_P D vwCl (wW sh N cc ad μ' ++ rs) H1 → va_D A (wW sh N cc ad μ' ++ rs) → va_S A H0 H1 locs1 → W p l e R s m args below meth c H1 locs1 cells slots Q (F0 m (pc + 3) ls rest)) : W p l e R s m args below meth c H locs cells slots Q (F0 m pc ls (.int n :: .int dp :: .ref (ad q1) :: .int sp :: .ref (ad q0) :: rest)) := by
  refine va_copyi (ty := .int) hx hb hml hown hlink hnat hstat hini hK hP hD hS q0 q1 0 0 (by rw [wW_at h0.1, h0.2]) (by rw [wW_at h1.1, h1.2]) rfl rfl rfl hc.1.1 hc.1.2.1 hc.1.2.2 hc.2.1 hc.2.2 (fun _ _ => rfl) hframes hlocals hdg (fun H1 locs1 hP1 hD1 hS1 => ?_)
  rw [wW_setA h1.1 _ (h1.2 _ _ _ _)] at hP1 hD1
  exact kk _ H1 locs1 rfl hP1 hD1 hS1
theorem zw_copyl (hx : p.tables.exec = Jvm.exec) (hb : c.code = bc) (hml : c.maxLocals = ls.size) {own : String} {index : Nat} (hown : s.vm.findClass own = some m.cls) (hlink : (Cond.methodLink own index arraycopyName).before args s = true) (hnat : (Cond.native arraycopyName).before args s = true) (hstat : (Cond.static arraycopyName).before args s = true) (hini : (Cond.initialized "java/lang/System").before args s = true)
    (hK : va_K D vwCl (tyL cc) s) (hP : va_P D vwCl (wW sh N cc ad μ ++ rs) H) (hD : va_D A (wW sh N cc ad μ ++ rs)) (hS : va_S A H0 H locs) {q0 q1 n0 n1 : Nat} (h0 : isJ sh N q0 n0) (h1 : isJ sh N q1 n1) {sp dp n : Int32} (hc : (¬ sp < 0 ∧ ¬ dp < 0 ∧ ¬ n < 0) ∧ sp.toNatClampNeg + n.toNatClampNeg ≤ n0 ∧ dp.toNatClampNeg + n.toNatClampNeg ≤ n1)
    (hframes : 1 ≤ R.frames) (hlocals : (rest.map fun v => v.category).sum + (nativeFrameWords "java/lang/System" "arraycopy" 5 + 11) ≤ R.locals) (hdg : decode bc pc = .ok (.invokestatic index, 3))
    (kk : ∀ (μ' : Mem) (H1 : Heap) (locs1 : List Loc), μ' = wB μ q1 (va_cpy (μ.2 q0) (μ.2 q1) sp.toNatClampNeg dp.toNatClampNeg n.toNatClampNeg) → va_P D vwCl (wW sh N cc ad μ' ++ rs) H1 → va_D A (wW sh N cc ad μ' ++ rs) → va_S A H0 H1 locs1 → W p l e R s m args below meth c H1 locs1 cells slots Q (F0 m (pc + 3) ls rest)) : W p l e R s m args below meth c H locs cells slots Q (F0 m pc ls (.int n :: .int dp :: .ref (ad q1) :: .int sp :: .ref (ad q0) :: rest)) := by
  refine va_copyl (ty := .long) hx hb hml hown hlink hnat hstat hini hK hP hD hS q0 q1 1 1 (by rw [wW_at h0.1, h0.2]) (by rw [wW_at h1.1, h1.2]) rfl rfl rfl hc.1.1 hc.1.2.1 hc.1.2.2 hc.2.1 hc.2.2 (fun _ _ => rfl) hframes hlocals hdg (fun H1 locs1 hP1 hD1 hS1 => ?_)
  rw [wW_setB h1.1 _ (h1.2 _ _ _ _)] at hP1 hD1
  exact kk _ H1 locs1 rfl hP1 hD1 hS1
end ZW
