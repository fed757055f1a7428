/-! cells that come: arrays, arrays of arrays, objects; and what a constructor gives back -/
theorem goodIn_len {α : Type} {l : List α} {k : Nat} {x : α} (h : l[k]? = some x) : k < l.length := (List.getElem?_eq_some_iff.mp h).1
theorem zn_app {A0 : Nat → Prop} {D : va_G} {cl : List vw_C} {ws wc w1 : va_W} {H H1 : Heap} (hP : va_P D cl (ws ++ wc) H) (hD : va_D A0 (ws ++ wc)) (hk : ∀ q : Nat, q < H.size → ¬ va_A wc H.size q → H1[q]? = H[q]?) (hF : ∀ q, va_A wc H.size q → A0 q) (hP1 : va_P D cl w1 H1) (hD1 : va_D (va_A wc H.size) w1) : va_P D cl (ws ++ w1) H1 ∧ va_D A0 (ws ++ w1) := by
  have lift : ∀ {k : Nat} {q : Nat × va_E}, ws[k]? = some q → (ws ++ wc)[k]? = some q := fun {k q} h => by rw [List.getElem?_append_left (goodIn_len h)]; exact h
  have apart : ∀ (k : Nat) (q : Nat × va_E), ws[k]? = some q → q.1 < H.size ∧ ¬ va_A wc H.size q.1 := by
    intro k q hq
    have hl := (hP k q (lift hq)).lt
    refine ⟨hl, fun h => ?_⟩
    rcases h with ⟨k2, e, h⟩ | h
    · have h2 : (ws ++ wc)[ws.length + k2]? = some (q.1, e) := by rw [List.getElem?_append_right (by omega), show ws.length + k2 - ws.length = k2 by omega]; exact h
      have := hD.1 k (ws.length + k2) q (q.1, e) (lift hq) h2 rfl
      have := goodIn_len hq
      omega
    · omega
  refine ⟨va_P.app (fun k q hq => ?_) hP1, va_D.app ⟨fun i j x y hi hj e => hD.1 i j x y (lift hi) (lift hj) e, fun k q hq => hD.2 k q (lift hq)⟩ (hD1.weaken (fun k q _ h => hF q.1 h)) (fun i j x y hx hy hxy => ?_)⟩
  · obtain ⟨g1, g2⟩ := apart k q hq
    exact (hP k q (lift hq)).kept (hk q.1 g1 g2)
  · exact (apart i x hx).2 (by rw [hxy]; exact hD1.2 j y hy)
theorem zn_tail {D : va_G} {cl : List vw_C} {ws wc : va_W} {H : Heap} (hP : va_P D cl (ws ++ wc) H) : va_P D cl wc H := fun k q hq => hP (ws.length + k) q (by rw [List.getElem?_append_right (by omega), show ws.length + k - ws.length = k by omega]; exact hq)
theorem zn_tailD {A0 : Nat → Prop} {ws wc : va_W} (hD : va_D A0 (ws ++ wc)) : va_D A0 wc := ⟨fun i j x y hi hj e => by
    have up : ∀ {k : Nat} {q : Nat × va_E}, wc[k]? = some q → (ws ++ wc)[ws.length + k]? = some q := fun {k q} h => by rw [List.getElem?_append_right (by omega), show ws.length + k - ws.length = k by omega]; exact h
    have := hD.1 _ _ x y (up hi) (up hj) e
    omega, fun k q hq => hD.2 (ws.length + k) q (by rw [List.getElem?_append_right (by omega), show ws.length + k - ws.length = k by omega]; exact hq)⟩
theorem zn_free {A0 : Nat → Prop} {ws wc : va_W} {H0 H : Heap} {locs : List Loc} (hD : va_D A0 (ws ++ wc)) (hS : va_S A0 H0 H locs) (hA : ∀ q, H0.size ≤ q → A0 q) : ∀ q, va_A wc H.size q → A0 q := by
  intro q h
  rcases h with ⟨k, e, h⟩ | h
  · exact (zn_tailD hD).2 k (q, e) h
  · exact hA q (Nat.le_trans hS.1 h)
/-- what the tables say beside the words: private constructors of nest mates, arrays over -/
def ncQ : List (String × Nat × MethodName) := [("FeatureClashes", 26, yX4_init), ("FeatureClashes", 53, yX0_init), ("FeatureClashes", 60, yX1_init), ("FeatureClashes$Outcomes", 11, yX3_init)]
def NC (U : State) : Prop := (∀ (k : Nat) (q : String × Nat × MethodName), ncQ[k]? = some q → va_Nw (.methodLinkNest q.1 q.2.1 q.2.2 "FeatureClashes") U) ∧ va_AOA .int U ∧ va_AO "FeatureClashes$Setup" U ∧ NW U
theorem NC.warm {s U : State} (hW : s.WarmedH U.vm) (h : NC s) : NC U := ⟨fun k q hq => va_Nw.warmM hW (h.1 k q hq), h.2.1.moved hW.alike, h.2.2.1.moved hW.alike, h.2.2.2.warm hW⟩
theorem NC.same {s U : State} (hv : s.vm = U.vm) (h : NC s) : NC U := ⟨fun k q hq => va_Nw.same rfl hv (h.1 k q hq), h.2.1.moved (by rw [hv]; exact Vm.Alike.refl U.vm), h.2.2.1.moved (by rw [hv]; exact Vm.Alike.refl U.vm), h.2.2.2.same hv⟩
theorem zn_eq {D : va_G} {cl : List vw_C} {cc : Nat → ClassId} {s : State} {cA cB : ClassId} {ty : FieldType} (hK : va_K D cl (tyL cc ++ [(cA, ty)]) s) (k : Nat) (hk : (tyL cc)[k]? = some (cB, ty)) : cA = cB := by
  have h1 := (hK.2 k (cB, ty) (by rw [List.getElem?_append_left (goodIn_len hk)]; exact hk)).2
  have h2 := (hK.2 (tyL cc).length (cA, ty) (by rw [List.getElem?_append_right (Nat.le_refl _), Nat.sub_self]; rfl)).2
  cases ty with
  | object C =>
    obtain ⟨_, _, _, _, _, a1⟩ := h1
    obtain ⟨_, _, _, _, _, a2⟩ := h2
    exact Option.some.inj (a2.symm.trans a1)
  | _ => exact Option.some.inj (Eq.trans (Eq.symm h2) h1)
section ZN
variable {p : Program} {l : Launch} {e : Env} {R : Room} {s : State} {m : MethodId} {args : Array Value} {below : List Frame} {meth : Method} {c : Code} {H : Heap} {locs : List Loc} {cells slots : Nat} {Q : State → Prop}
variable {bc : ByteArray} {pc : Nat} {ls : Array Slot} {rest : List Value} {D : va_G} {A : Nat → Prop} {H0 : Heap} {cc : Nat → ClassId} {ws : va_W}
theorem zn_newi (hx : p.tables.exec = Jvm.exec) (hb : c.code = bc) (harr : (Cond.arrayClass .int).before args s = true) (hK : va_K D vwCl (tyL cc) s) (hP : va_P D vwCl ws H) (hD : va_D A ws) (hS : va_S A H0 H locs) (hA : ∀ q, H0.size ≤ q → A q) {n : Int32} {N' : Nat} (hn : ¬ n < 0) (hN : n.toNatClampNeg = N') (hbytes : N' * componentBytes .int ≤ 536870912) (hcells : cells + 1 ≤ R.cells) (hslots : slots + N' ≤ R.slots) (hdg : decode bc pc = .ok (.newarray .int, 2))
    (kk : ∀ (q : Nat) (H1 : Heap), va_P D vwCl (ws ++ [(q, cI cc N' (fun _ => 0))]) H1 → va_D A (ws ++ [(q, cI cc N' (fun _ => 0))]) → va_S A H0 H1 locs → W p l e R s m args below meth c H1 locs (cells + 1) (slots + N') Q (F0 m (pc + 2) ls (.ref q :: rest))) : W p l e R s m args below meth c H locs cells slots Q (F0 m pc ls (.int n :: rest)) := by
  refine va_newa (atype := .int) (ty := .int) (a0 := (N', .inl (fun _ => 0))) hx hb harr rfl hK hP hD hS hA (fun cA => rfl) hn hN hbytes hcells hslots hdg (fun q cA H1 hK1 hP1 hD1 hS1 => ?_)
  have e := zn_eq hK1 0 rfl
  subst e
  exact kk q H1 hP1 hD1 hS1
theorem zn_newj (hx : p.tables.exec = Jvm.exec) (hb : c.code = bc) (harr : (Cond.arrayClass .long).before args s = true) (hK : va_K D vwCl (tyL cc) s) (hP : va_P D vwCl ws H) (hD : va_D A ws) (hS : va_S A H0 H locs) (hA : ∀ q, H0.size ≤ q → A q) {n : Int32} {N' : Nat} (hn : ¬ n < 0) (hN : n.toNatClampNeg = N') (hbytes : N' * componentBytes .long ≤ 536870912) (hcells : cells + 1 ≤ R.cells) (hslots : slots + N' ≤ R.slots) (hdg : decode bc pc = .ok (.newarray .long, 2))
    (kk : ∀ (q : Nat) (H1 : Heap), va_P D vwCl (ws ++ [(q, cJ cc N' (fun _ => 0))]) H1 → va_D A (ws ++ [(q, cJ cc N' (fun _ => 0))]) → va_S A H0 H1 locs → W p l e R s m args below meth c H1 locs (cells + 1) (slots + N') Q (F0 m (pc + 2) ls (.ref q :: rest))) : W p l e R s m args below meth c H locs cells slots Q (F0 m pc ls (.int n :: rest)) := by
  refine va_newa (atype := .long) (ty := .long) (a0 := (N', .inr (.inl (fun _ => 0)))) hx hb harr rfl hK hP hD hS hA (fun cA => rfl) hn hN hbytes hcells hslots hdg (fun q cA H1 hK1 hP1 hD1 hS1 => ?_)
  have e := zn_eq hK1 1 rfl
  subst e
  exact kk q H1 hP1 hD1 hS1
theorem zn_newz (hx : p.tables.exec = Jvm.exec) (hb : c.code = bc) (harr : (Cond.arrayClass .boolean).before args s = true) (hK : va_K D vwCl (tyL cc) s) (hP : va_P D vwCl ws H) (hD : va_D A ws) (hS : va_S A H0 H locs) (hA : ∀ q, H0.size ≤ q → A q) {n : Int32} {N' : Nat} (hn : ¬ n < 0) (hN : n.toNatClampNeg = N') (hbytes : N' * componentBytes .boolean ≤ 536870912) (hcells : cells + 1 ≤ R.cells) (hslots : slots + N' ≤ R.slots) (hdg : decode bc pc = .ok (.newarray .boolean, 2))
    (kk : ∀ (q : Nat) (H1 : Heap), va_P D vwCl (ws ++ [(q, cZ cc N' (fun _ => 0))]) H1 → va_D A (ws ++ [(q, cZ cc N' (fun _ => 0))]) → va_S A H0 H1 locs → W p l e R s m args below meth c H1 locs (cells + 1) (slots + N') Q (F0 m (pc + 2) ls (.ref q :: rest))) : W p l e R s m args below meth c H locs cells slots Q (F0 m pc ls (.int n :: rest)) := by
  refine va_newa (atype := .boolean) (ty := .boolean) (a0 := (N', .inl (fun _ => 0))) hx hb harr rfl hK hP hD hS hA (fun cA => rfl) hn hN hbytes hcells hslots hdg (fun q cA H1 hK1 hP1 hD1 hS1 => ?_)
  have e := zn_eq hK1 2 rfl
  subst e
  exact kk q H1 hP1 hD1 hS1
theorem zn_newS (hx : p.tables.exec = Jvm.exec) (hb : c.code = bc) {own : String} {index : Nat} (hown : s.vm.findClass own = some m.cls) (hclink : (Cond.classLink own index "FeatureClashes$Setup").before args s = true) (hover : va_AO "FeatureClashes$Setup" s) (hK : va_K D vwCl (tyL cc) s) (hP : va_P D vwCl ws H) (hD : va_D A ws) (hS : va_S A H0 H locs) (hA : ∀ q, H0.size ≤ q → A q) {n : Int32} {N' : Nat} (hn : ¬ n < 0) (hN : n.toNatClampNeg = N') (hbytes : N' * 4 ≤ 536870912) (hcells : cells + 1 ≤ R.cells) (hslots : slots + N' ≤ R.slots) (hdg : decode bc pc = .ok (.anewarray index, 3))
    (kk : ∀ (q : Nat) (H1 : Heap), va_P D vwCl (ws ++ [(q, .inl (cc 3, N', .inr (.inr (.inr (.inr (fun _ => none))))))]) H1 → va_D A (ws ++ [(q, .inl (cc 3, N', .inr (.inr (.inr (.inr (fun _ => none))))))]) → va_S A H0 H1 locs → W p l e R s m args below meth c H1 locs (cells + 1) (slots + N') Q (F0 m (pc + 3) ls (.ref q :: rest))) : W p l e R s m args below meth c H locs cells slots Q (F0 m pc ls (.int n :: rest)) := by
  refine va_newq (C := "FeatureClashes$Setup") hx hb hown hclink hover hK hP hD hS hA hn hN hbytes hcells hslots hdg (fun q cA H1 hK1 hP1 hD1 hS1 => ?_)
  have e := zn_eq hK1 3 rfl
  subst e
  exact kk q H1 hP1 hD1 hS1
theorem zn_mna (hx : p.tables.exec = Jvm.exec) (hb : c.code = bc) {own : String} {index : Nat} (hown : s.vm.findClass own = some m.cls) (hclink : (Cond.classLink own index "[[I").before args s = true) (hover : va_AOA .int s) (harr : (Cond.arrayClass .int).before args s = true)
    (hK : va_K D vwCl (tyL cc) s) (hP : va_P D vwCl ws H) (hD : va_D A ws) (hS : va_S A H0 H locs) (hA : ∀ q, H0.size ≤ q → A q) {n k : Int32} {N' K' : Nat} (hn : ¬ n < 0) (hk : ¬ k < 0) (hN : n.toNatClampNeg = N') (hM : k.toNatClampNeg = K')
    (hb1 : N' * 4 ≤ 536870912) (hb2 : K' * componentBytes .int ≤ 536870912) (hb3 : K' ≤ 536870912) (hcells : cells + (1 + N') ≤ R.cells) (hslots : slots + (N' + N' * K') ≤ R.slots) (hdg : decode bc pc = .ok (.multianewarray index 2, 4))
    (kk : ∀ (q : Nat) (r : Nat → Nat) (H1 : Heap), va_P D vwCl ((ws ++ [(q, .inl (cc 4, N', .inr (.inr (.inr (.inr (fun i => if i < N' then some (r i) else none))))))]) ++ (List.range N').map (fun i => (r i, cI cc K' (fun _ => 0)))) H1 → va_D A ((ws ++ [(q, .inl (cc 4, N', .inr (.inr (.inr (.inr (fun i => if i < N' then some (r i) else none))))))]) ++ (List.range N').map (fun i => (r i, cI cc K' (fun _ => 0)))) → va_S A H0 H1 locs →
      W p l e R s m args below meth c H1 locs (cells + 1 + N') (slots + N' + N' * K') Q (F0 m (pc + 4) ls (.ref q :: rest))) : W p l e R s m args below meth c H locs cells slots Q (F0 m pc ls (.int k :: .int n :: rest)) := by
  have hcy : s.vm.findClass (FieldType.array .int).toString = some (cc 0) := (hK.2 0 (cc 0, .int) rfl).2
  refine va_mna (X := ws) (L := []) (f := fun _ => cI cc 0 (fun _ => 0)) (ty := .int) (z := (K', .inl (fun _ => 0))) hx hb hown hclink hover harr hcy hK (by rw [show va_pl [] (fun _ => cI cc 0 (fun _ => 0)) = [] from rfl, List.append_nil]; exact hP) (by rw [show va_pl [] (fun _ => cI cc 0 (fun _ => 0)) = [] from rfl, List.append_nil]; exact hD) hS hA hn hk hN hM hb1 hb2 hb3 rfl rfl hcells hslots (fun c9 => by rw [vp_cell_i, ← arrV_new]; rfl) hdg (fun q r cA H1 _ _ hK1 hP1 hD1 hS1 => ?_)
  have e := zn_eq hK1 4 rfl
  subst e
  rw [← vr_rows (L := []) (fun a _ h => by cases h)] at hP1 hD1
  rw [List.map_map] at hP1 hD1
  exact kk q r H1 hP1 hD1 hS1
end ZN
/-! the blocks that constructors give -/
def shS : Shp := fun cc ad p i _ => (cS 0 cc ad i).getD p (cI cc 0 i)
def fsTb (ad : Nat → Nat) (i : Nat → Int32) : List Value := [.ref (ad 1), .int (i 1), .ref (ad 2), .int (i 3), .int (i 4), .int (i 5), .int (i 6), .int (i 7), .int (i 8), .int (i 9)]
def shT : Shp := fun cc ad p i _ => ([.inr (4, fsTb ad i), cI cc 80 i, cI cc 32 i] : List va_E).getD p (cI cc 0 i)
def fsDb (ad : Nat → Nat) (i : Nat → Int32) : List Value := [.int (i 0), .ref (ad 1), .ref (ad 2), .ref (ad 3), .ref (ad 4), .ref (ad 5), .ref (ad 6), .ref (ad 7), .int (i 8)]
def shD : Shp := fun cc ad p i _ => ([.inr (0, fsDb ad i), cI cc 64 i, cI cc 64 i, cI cc 64 i, cI cc 64 i, cI cc 64 i, cI cc 64 i, cZ cc 64 i] : List va_E).getD p (cI cc 0 i)
def fsHb (ad : Nat → Nat) (i : Nat → Int32) : List Value := [.ref (ad 1), .ref (ad 2), .ref (ad 3), .ref (ad 4), .ref (ad 5), .int (i 5)]
def shH : Shp := fun cc ad p i j => ([.inr (3, fsHb ad i), cJ cc 4 j, cI cc 8 i, cI cc 8 i, cI cc 8 i, cI cc 8 i] : List va_E).getD p (cI cc 0 i)
def fsOb (ad : Nat → Nat) (i : Nat → Int32) : List Value := [.ref (ad 1), .ref (ad 7), .int (i 2), .int (i 3), .ref (ad 8), .ref (ad 16), .ref (ad 17)]
def fsHo (ad : Nat → Nat) (i : Nat → Int32) : List Value := [.ref (ad 2), .ref (ad 3), .ref (ad 4), .ref (ad 5), .ref (ad 6), .int (i 5)]
def shO : Shp := fun cc ad p i j => ([.inr (1, fsOb ad i), .inr (3, fsHo ad i), cJ cc 4 j, cI cc 8 i, cI cc 8 i, cI cc 8 i, cI cc 8 i, cJ cc 2880 j, cR cc 4 7 ad (fun x => 9 + x), cI cc 32 i, cI cc 32 i, cI cc 32 i, cI cc 32 i, cI cc 32 i, cI cc 32 i, cI cc 32 i, cI cc 6 i, cI cc 6 i] : List va_E).getD p (cI cc 0 i)
def zeroM : Mem := (fun _ _ => 0, fun _ _ => 0)
