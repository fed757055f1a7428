theorem zw_lt {i : Int32} {n : Nat} (h : vp_in i n) : i.toNatClampNeg < n := Nat.not_le.mp fun q => h (Or.inr q)
def isB (v : Int32) : Prop := narrow .boolean (.int v) = .int v
theorem zw_sw {y : Int32} (n0 : ¬ y = 0) (n1 : ¬ y = 1) (n2 : ¬ y = 2) (n3 : ¬ y = 3) (n4 : ¬ y = 4) (n5 : ¬ y = 5) : y.toInt < 0 ∨ 5 < y.toInt := by
  have h0 := lv_neT n0 (a := 0) rfl
  have h1 := lv_neT n1 (a := 1) rfl
  have h2 := lv_neT n2 (a := 2) rfl
  have h3 := lv_neT n3 (a := 3) rfl
  have h4 := lv_neT n4 (a := 4) rfl
  have h5 := lv_neT n5 (a := 5) rfl
  omega
section ZC
variable {p : Program} {l : Launch} {e : Env} {R : Room} {s : State} {m : MethodId} {args : Array Value} {below : List Frame} {meth : Method} {c : Code} {H : Heap} {locs : List Loc} {cells slots : Nat} {Q : State → Prop}
variable {pc : Nat} {ls : Array Slot} {rest st0 : List Value} {D : va_G} {A : Nat → Prop} {H0 : Heap}
variable {sh : Shp} {N : Nat} {cc : Nat → ClassId} {ad : Nat → Nat} {μ : Mem} {rs : va_W}
variable {y : MethodName} {bytes bc : ByteArray} {maxL nL n index : Nat} {ret : Option FieldType} {wsy : List Cond} {rm : Room} {Ts : List Cond} {own C host : String} {As : List Value} {Qc : Array Value → State → Outcome → State → Prop}
theorem zc_runV {q ci M : Nat} {T : u_T} {fs : (Nat → Nat) → (Nat → Int32) → List Value} (S : CallFix p m c bc nL s args Ts own) (hM : Met l y wsy rm (va_Pc (.ref (ad q) :: As) (PW sh N D cc A ad rs μ)) Qc 0 0 A) (cw : CallW R s args own C index y bytes maxL ret wsy rm 0 0 n) (hq : isO sh N q ci fs) (hc : vwCl[ci]? = some (C, T, M))
    (hK : va_K D vwCl (tyL cc) s) (hN : NW s) (hP : va_P D vwCl (wW sh N cc ad μ ++ rs) H) (hD : va_D A (wW sh N cc ad μ ++ rs)) (hn : As.length = n) (hls : ls.size = nL) (hst : st0 = As.reverse ++ .ref (ad q) :: rest) (hW : (rest.map fun v => v.category).sum ≤ 8) (hdg : decode bc pc = .ok (.invokevirtual index, 3)) (hf : cells ≤ R.cells ∧ slots ≤ R.slots) :
    va_Run p l e R s m args below meth c H locs cells slots 0 0 (F0 m pc ls st0) rest (Qc (Value.ref (ad q) :: As).toArray) A :=
  va_runV S hM cw ⟨PW.blind, va_recv hK hP (ci := ci) (q0 := q) hc (by rw [wW_at hq.1, hq.2]), fun U hU hW => ⟨rfl, PW.to hK hN hP hD U hU hW⟩⟩ rfl hn hls hst (lv_room hW) hdg hf
theorem zc_runS (S : CallFix p m c bc nL s args Ts own) (hM : Met l y wsy rm (va_Pc As (PW sh N D cc A ad rs μ)) Qc 0 0 A) (cw : CallB R s args own index y bytes maxL ret wsy rm 0 0 n ∧ (Cond.static y).before args s = true)
    (hK : va_K D vwCl (tyL cc) s) (hN : NW s) (hP : va_P D vwCl (wW sh N cc ad μ ++ rs) H) (hD : va_D A (wW sh N cc ad μ ++ rs)) (hn : As.length = n) (hls : ls.size = nL) (hst : st0 = As.reverse ++ rest) (hW : (rest.map fun v => v.category).sum ≤ 8) (hdg : decode bc pc = .ok (.invokestatic index, 3)) (hf : cells ≤ R.cells ∧ slots ≤ R.slots) :
    va_Run p l e R s m args below meth c H locs cells slots 0 0 (F0 m pc ls st0) rest (Qc As.toArray) A :=
  va_runS S hM cw ⟨PW.blind, fun U hU hW => ⟨rfl, PW.to hK hN hP hD U hU hW⟩⟩ rfl hn hls hst (lv_room hW) hdg hf
theorem zc_runSN (S : CallFix p m c bc nL s args Ts own) (hM : Met l y wsy rm (va_Pc As (PW sh N D cc A ad rs μ)) Qc 0 0 A) (cw : va_CN R s args own index y host bytes maxL ret wsy rm 0 0 n ∧ (Cond.static y).before args s = true ∧ True)
    (hK : va_K D vwCl (tyL cc) s) (hN : NW s) (hP : va_P D vwCl (wW sh N cc ad μ ++ rs) H) (hD : va_D A (wW sh N cc ad μ ++ rs)) (hn : As.length = n) (hls : ls.size = nL) (hst : st0 = As.reverse ++ rest) (hW : (rest.map fun v => v.category).sum ≤ 8) (hdg : decode bc pc = .ok (.invokestatic index, 3)) (hf : cells ≤ R.cells ∧ slots ≤ R.slots) :
    va_Run p l e R s m args below meth c H locs cells slots 0 0 (F0 m pc ls st0) rest (Qc As.toArray) A :=
  va_runSN S hM cw ⟨PW.blind, fun U hU hW => ⟨rfl, PW.to hK hN hP hD U hU hW⟩⟩ rfl hn hls hst (lv_room hW) hdg hf
variable {a : Array Value}
theorem zc_i {K : Int32 → Mem → Prop} (hr : va_Run p l e R s m args below meth c H locs cells slots 0 0 (F0 m pc ls st0) rest (va_Qi K (PW sh N D cc A ad rs) A a) A) (hS : va_S A H0 H locs)
    (kk : ∀ (r : Int32) (μ' : Mem) (H1 : Heap) (locs1 : List Loc), K r μ' → va_P D vwCl (wW sh N cc ad μ' ++ rs) H1 → va_D A (wW sh N cc ad μ' ++ rs) → va_S A H0 H1 locs1 → W p l e R s m args below meth c H1 locs1 cells slots Q (F0 m (pc + 3) ls (.int r :: rest))) : W p l e R s m args below meth c H locs cells slots Q (F0 m pc ls st0) :=
  va_calli hr hS (fun _ _ h => h) (fun _ h => h) (fun r u t H1 locs1 ht hvm hw hB hz hk hS1 => kk r u H1 locs1 hw (by rw [← ht]; exact hB.1) hB.2.2.1 hS1)
theorem zc_l {K : Int64 → Mem → Prop} (hr : va_Run p l e R s m args below meth c H locs cells slots 0 0 (F0 m pc ls st0) rest (va_Ql K (PW sh N D cc A ad rs) A a) A) (hS : va_S A H0 H locs)
    (kk : ∀ (r : Int64) (μ' : Mem) (H1 : Heap) (locs1 : List Loc), K r μ' → va_P D vwCl (wW sh N cc ad μ' ++ rs) H1 → va_D A (wW sh N cc ad μ' ++ rs) → va_S A H0 H1 locs1 → W p l e R s m args below meth c H1 locs1 cells slots Q (F0 m (pc + 3) ls (.long r :: rest))) : W p l e R s m args below meth c H locs cells slots Q (F0 m pc ls st0) :=
  va_calll hr hS (fun _ _ h => h) (fun _ h => h) (fun r u t H1 locs1 ht hvm hw hB hz hk hS1 => kk r u H1 locs1 hw (by rw [← ht]; exact hB.1) hB.2.2.1 hS1)
theorem zc_v {K : Mem → Prop} (hr : va_Run p l e R s m args below meth c H locs cells slots 0 0 (F0 m pc ls st0) rest (va_Qv K (PW sh N D cc A ad rs) A a) A) (hS : va_S A H0 H locs)
    (kk : ∀ (μ' : Mem) (H1 : Heap) (locs1 : List Loc), K μ' → va_P D vwCl (wW sh N cc ad μ' ++ rs) H1 → va_D A (wW sh N cc ad μ' ++ rs) → va_S A H0 H1 locs1 → W p l e R s m args below meth c H1 locs1 cells slots Q (F0 m (pc + 3) ls rest)) : W p l e R s m args below meth c H locs cells slots Q (F0 m pc ls st0) :=
  va_callv hr hS (fun _ _ h => h) (fun _ h => h) (fun u t H1 locs1 ht hvm hw hB hz hk hS1 => kk u H1 locs1 hw (by rw [← ht]; exact hB.1) hB.2.2.1 hS1)
end ZC
/-! the class's cells: place 0 the object, 1.. the setup (its rows 2..10), 11 the slots (12.., 22..), and so on -/
def fsS (B : Nat) (ad : Nat → Nat) (i : Nat → Int32) : List Value := [.int (i 0), .int (i 1), .int (i 2), .int (i 3), .ref (ad (B+1)), .ref (ad (B+2)), .ref (ad (B+9))]
def fsX (ad : Nat → Nat) (i : Nat → Int32) : List Value := [.ref (ad 1), .ref (ad 11), .ref (ad 32), .ref (ad 33), .ref (ad 36), .int (i 5), .ref (ad 37), .ref (ad 38), .ref (ad 39), .ref (ad 40), .ref (ad 41), .ref (ad 49)]
def fsT (ad : Nat → Nat) (i : Nat → Int32) : List Value := [.ref (ad 34), .int (i 1), .ref (ad 35), .int (i 3), .int (i 4), .int (i 5), .int (i 6), .int (i 7), .int (i 8), .int (i 9)]
def fsD (ad : Nat → Nat) (i : Nat → Int32) : List Value := [.int (i 0), .ref (ad 42), .ref (ad 43), .ref (ad 44), .ref (ad 45), .ref (ad 46), .ref (ad 47), .ref (ad 48), .int (i 8)]
def fsO (ad : Nat → Nat) (i : Nat → Int32) : List Value := [.ref (ad 50), .ref (ad 56), .int (i 2), .int (i 3), .ref (ad 57), .ref (ad 65), .ref (ad 66)]
def fsH (ad : Nat → Nat) (i : Nat → Int32) : List Value := [.ref (ad 51), .ref (ad 52), .ref (ad 53), .ref (ad 54), .ref (ad 55), .int (i 5)]
def fsM (ad : Nat → Nat) (i : Nat → Int32) : List Value := [.ref (ad 1), .ref (ad 2), .ref (ad 3), .ref (ad 4), .int (i 4), .ref (ad 5), .int (i 6), .int (i 7), .ref (ad 6), .int (i 9), .ref (ad 7), .ref (ad 8), .ref (ad 9), .ref (ad 10), .ref (ad 11), .ref (ad 12), .ref (ad 13), .ref (ad 14), .int (i 18), .ref (ad 15), .ref (ad 16), .ref (ad 17)]
def cI (cc : Nat → ClassId) (n : Nat) (i : Nat → Int32) : va_E := .inl (cc 0, n, .inl i)
def cJ (cc : Nat → ClassId) (n : Nat) (j : Nat → Int64) : va_E := .inl (cc 1, n, .inr (.inl j))
def cZ (cc : Nat → ClassId) (n : Nat) (i : Nat → Int32) : va_E := .inl (cc 2, n, .inl i)
def cR (cc : Nat → ClassId) (t n : Nat) (ad g : Nat → Nat) : va_E := .inl (cc t, n, .inr (.inr (.inr (.inr (fun x => if x < n then some (ad (g x)) else none)))))
def cS (B : Nat) (cc : Nat → ClassId) (ad : Nat → Nat) (i : Nat → Int32) : List va_E := [.inr (2, fsS B ad i), cI cc 32 i, cR cc 4 6 ad (fun x => B+3+x), cI cc 32 i, cI cc 32 i, cI cc 32 i, cI cc 32 i, cI cc 32 i, cI cc 32 i, cI cc 6 i]
def lX (cc : Nat → ClassId) (ad : Nat → Nat) (i : Nat → Int32) (j : Nat → Int64) : List va_E := .inr (5, fsX ad i) :: (cS 1 cc ad i ++ (cR cc 3 2 ad (fun x => 12 + 10 * x) :: (cS 12 cc ad i ++ (cS 22 cc ad i ++
  [cZ cc 2 i, .inr (4, fsT ad i), cI cc 80 i, cI cc 32 i, cI cc 20 i, cI cc 32 i, cI cc 32 i, cI cc 6 i, cI cc 64 i, .inr (0, fsD ad i), cI cc 64 i, cI cc 64 i, cI cc 64 i, cI cc 64 i, cI cc 64 i, cI cc 64 i, cZ cc 64 i, .inr (1, fsO ad i), .inr (3, fsH ad i), cJ cc 4 j, cI cc 8 i, cI cc 8 i, cI cc 8 i, cI cc 8 i, cJ cc 2880 j, cR cc 4 7 ad (fun x => 58 + x), cI cc 32 i, cI cc 32 i, cI cc 32 i, cI cc 32 i, cI cc 32 i, cI cc 32 i, cI cc 32 i, cI cc 6 i, cI cc 6 i]))))
def shX : Shp := fun cc ad p i j => (lX cc ad i j).getD p (cI cc 0 i)
def lM (cc : Nat → ClassId) (ad : Nat → Nat) (i : Nat → Int32) : List va_E := [.inr (6, fsM ad i), cI cc 239 i, cI cc 478 i, cZ cc 2 i, cI cc 20 i, cI cc 80 i, cI cc 32 i, cI cc 32 i, cI cc 32 i, cI cc 81 i, cI cc 81 i, cI cc 81 i, cZ cc 81 i, cI cc 82 i, cI cc 6 i, cI cc 6 i, cI cc 23040 i, cI cc 6 i]
def shM : Shp := fun cc ad p i _ => (lM cc ad i).getD p (cI cc 0 i)
theorem kX_0 : isO shX 67 0 5 fsX := ⟨by decide, fun _ _ _ _ => rfl⟩
theorem kX_11 : isR shX 67 11 3 2 (fun x => 12 + 10 * x) := ⟨by decide, fun _ _ _ _ => rfl⟩
theorem kX_32 : isZ shX 67 32 2 := ⟨by decide, fun _ _ _ _ => rfl⟩
theorem kX_33 : isO shX 67 33 4 fsT := ⟨by decide, fun _ _ _ _ => rfl⟩
theorem kX_34 : isI shX 67 34 80 := ⟨by decide, fun _ _ _ _ => rfl⟩
theorem kX_35 : isI shX 67 35 32 := ⟨by decide, fun _ _ _ _ => rfl⟩
theorem kX_36 : isI shX 67 36 20 := ⟨by decide, fun _ _ _ _ => rfl⟩
theorem kX_37 : isI shX 67 37 32 := ⟨by decide, fun _ _ _ _ => rfl⟩
theorem kX_38 : isI shX 67 38 32 := ⟨by decide, fun _ _ _ _ => rfl⟩
theorem kX_39 : isI shX 67 39 6 := ⟨by decide, fun _ _ _ _ => rfl⟩
theorem kX_40 : isI shX 67 40 64 := ⟨by decide, fun _ _ _ _ => rfl⟩
theorem kX_41 : isO shX 67 41 0 fsD := ⟨by decide, fun _ _ _ _ => rfl⟩
theorem kX_42 : isI shX 67 42 64 := ⟨by decide, fun _ _ _ _ => rfl⟩
theorem kX_43 : isI shX 67 43 64 := ⟨by decide, fun _ _ _ _ => rfl⟩
theorem kX_44 : isI shX 67 44 64 := ⟨by decide, fun _ _ _ _ => rfl⟩
theorem kX_45 : isI shX 67 45 64 := ⟨by decide, fun _ _ _ _ => rfl⟩
theorem kX_46 : isI shX 67 46 64 := ⟨by decide, fun _ _ _ _ => rfl⟩
theorem kX_47 : isI shX 67 47 64 := ⟨by decide, fun _ _ _ _ => rfl⟩
theorem kX_48 : isZ shX 67 48 64 := ⟨by decide, fun _ _ _ _ => rfl⟩
theorem kX_49 : isO shX 67 49 1 fsO := ⟨by decide, fun _ _ _ _ => rfl⟩
theorem kX_50 : isO shX 67 50 3 fsH := ⟨by decide, fun _ _ _ _ => rfl⟩
theorem kX_51 : isJ shX 67 51 4 := ⟨by decide, fun _ _ _ _ => rfl⟩
theorem kX_52 : isI shX 67 52 8 := ⟨by decide, fun _ _ _ _ => rfl⟩
theorem kX_53 : isI shX 67 53 8 := ⟨by decide, fun _ _ _ _ => rfl⟩
theorem kX_54 : isI shX 67 54 8 := ⟨by decide, fun _ _ _ _ => rfl⟩
theorem kX_55 : isI shX 67 55 8 := ⟨by decide, fun _ _ _ _ => rfl⟩
theorem kX_56 : isJ shX 67 56 2880 := ⟨by decide, fun _ _ _ _ => rfl⟩
theorem kX_57 : isR shX 67 57 4 7 (fun x => 58 + x) := ⟨by decide, fun _ _ _ _ => rfl⟩
theorem kX_65 : isI shX 67 65 6 := ⟨by decide, fun _ _ _ _ => rfl⟩
theorem kX_66 : isI shX 67 66 6 := ⟨by decide, fun _ _ _ _ => rfl⟩
def isSetup (B : Nat) : Prop := B = 1 ∨ B = 12 ∨ B = 22
theorem sS1 : isSetup 1 := Or.inl rfl
theorem sSl {k : Nat} (h : k < 2) : isSetup (12 + 10 * k) := by
  rcases (show k = 0 ∨ k = 1 by omega) with rfl | rfl
  · exact Or.inr (Or.inl rfl)
  · exact Or.inr (Or.inr rfl)
theorem oS {B : Nat} (h : isSetup B) : isO shX 67 B 2 (fsS B) := by rcases h with rfl | rfl | rfl <;> exact ⟨by decide, fun _ _ _ _ => rfl⟩
theorem iS1 {B : Nat} (h : isSetup B) : isI shX 67 (B+1) 32 := by rcases h with rfl | rfl | rfl <;> exact ⟨by decide, fun _ _ _ _ => rfl⟩
theorem rS {B : Nat} (h : isSetup B) : isR shX 67 (B+2) 4 6 (fun x => B+3+x) := by rcases h with rfl | rfl | rfl <;> exact ⟨by decide, fun _ _ _ _ => rfl⟩
theorem iS9 {B : Nat} (h : isSetup B) : isI shX 67 (B+9) 6 := by rcases h with rfl | rfl | rfl <;> exact ⟨by decide, fun _ _ _ _ => rfl⟩
theorem iSr {B k : Nat} (h : isSetup B) (hk : k < 6) : isI shX 67 (B+3+k) 32 := by
  rcases (show k = 0 ∨ k = 1 ∨ k = 2 ∨ k = 3 ∨ k = 4 ∨ k = 5 by omega) with rfl | rfl | rfl | rfl | rfl | rfl <;> rcases h with rfl | rfl | rfl <;> exact ⟨by decide, fun _ _ _ _ => rfl⟩
theorem iSt {k : Nat} (hk : k < 7) : isI shX 67 (58+k) 32 := by
  rcases (show k = 0 ∨ k = 1 ∨ k = 2 ∨ k = 3 ∨ k = 4 ∨ k = 5 ∨ k = 6 by omega) with rfl | rfl | rfl | rfl | rfl | rfl | rfl <;> exact ⟨by decide, fun _ _ _ _ => rfl⟩
theorem kM_0 : isO shM 18 0 6 fsM := ⟨by decide, fun _ _ _ _ => rfl⟩
theorem kM_1 : isI shM 18 1 239 := ⟨by decide, fun _ _ _ _ => rfl⟩
theorem kM_2 : isI shM 18 2 478 := ⟨by decide, fun _ _ _ _ => rfl⟩
theorem kM_3 : isZ shM 18 3 2 := ⟨by decide, fun _ _ _ _ => rfl⟩
theorem kM_4 : isI shM 18 4 20 := ⟨by decide, fun _ _ _ _ => rfl⟩
theorem kM_5 : isI shM 18 5 80 := ⟨by decide, fun _ _ _ _ => rfl⟩
theorem kM_6 : isI shM 18 6 32 := ⟨by decide, fun _ _ _ _ => rfl⟩
theorem kM_7 : isI shM 18 7 32 := ⟨by decide, fun _ _ _ _ => rfl⟩
theorem kM_8 : isI shM 18 8 32 := ⟨by decide, fun _ _ _ _ => rfl⟩
theorem kM_9 : isI shM 18 9 81 := ⟨by decide, fun _ _ _ _ => rfl⟩
theorem kM_10 : isI shM 18 10 81 := ⟨by decide, fun _ _ _ _ => rfl⟩
theorem kM_11 : isI shM 18 11 81 := ⟨by decide, fun _ _ _ _ => rfl⟩
theorem kM_12 : isZ shM 18 12 81 := ⟨by decide, fun _ _ _ _ => rfl⟩
theorem kM_13 : isI shM 18 13 82 := ⟨by decide, fun _ _ _ _ => rfl⟩
theorem kM_14 : isI shM 18 14 6 := ⟨by decide, fun _ _ _ _ => rfl⟩
theorem kM_15 : isI shM 18 15 6 := ⟨by decide, fun _ _ _ _ => rfl⟩
theorem kM_16 : isI shM 18 16 23040 := ⟨by decide, fun _ _ _ _ => rfl⟩
theorem kM_17 : isI shM 18 17 6 := ⟨by decide, fun _ _ _ _ => rfl⟩
