def f_X0_letterAt (x1 : Int32) (μ : Mem) (K : Int32 → Mem → Prop) : Prop :=
  ((x1 < 0 → (K (-5) μ)) ∧ (¬ x1 < 0 → (((μ.1 41 0) ≤ x1 → (K (-5) μ)) ∧ (¬ (μ.1 41 0) ≤ x1 → (vp_in x1 64 ∧ (K (μ.1 42 (x1 : Int32).toNatClampNeg) μ))))))
def f_X0_meet (x1 : Int32) (x2 : Int32) (x3 : Int32) (x4 : Int32) (μ : Mem) (K : Mem → Prop) : Prop :=
  ∀ (G80 : Int32 → Int32 → Int32 → Int32 → Mem → Prop),
  (∀ (b3 : Int32) (b4 : Int32) (z0 : Int32) (z1 : Int32) (μ : Mem), (vp_in z1 64 ∧ ∀ μ14 : Mem, μ14 = wI μ 45 (z1 : Int32).toNatClampNeg z0 → vp_in (μ14.1 41 8) 64 ∧ ∀ μ16 : Mem, μ16 = wI μ14 46 (μ14.1 41 8 : Int32).toNatClampNeg b3 → vp_in (μ16.1 41 8) 64 ∧ ∀ μ18 : Mem, μ18 = wI μ16 47 (μ16.1 41 8 : Int32).toNatClampNeg b4 → ∀ μ19 : Mem, μ19 = wI μ18 41 8 ((μ18.1 41 8) + 1) → K μ19) → G80 b3 b4 z0 z1 μ) →
  (∀ y1 : Int32, y1 = (x1 * 8) + x2 → vp_in y1 64 ∧ ((¬ (μ.1 48 (y1 : Int32).toNatClampNeg) = 0 → (K μ)) ∧ ((μ.1 48 (y1 : Int32).toNatClampNeg) = 0 → (((μ.1 41 8) < 64 → (vp_in y1 64 ∧ ∀ μ6 : Mem, μ6 = wI μ 48 (y1 : Int32).toNatClampNeg (vp_nar .boolean 1) → vp_in (μ6.1 41 8) 64 ∧ ∀ μ8 : Mem, μ8 = wI μ6 43 (μ6.1 41 8 : Int32).toNatClampNeg x1 → vp_in (μ8.1 41 8) 64 ∧ ∀ μ10 : Mem, μ10 = wI μ8 44 (μ8.1 41 8 : Int32).toNatClampNeg x2 → (0 ≤ x3 → (vp_in x3 64 ∧ (G80 x3 x4 ((μ10.1 45 (x3 : Int32).toNatClampNeg) + 1) (μ10.1 41 8) μ10))) ∧ (¬ 0 ≤ x3 → (G80 x3 x4 0 (μ10.1 41 8) μ10)))) ∧ (¬ (μ.1 41 8) < 64 → (K μ))))))
def f_X5_cellOf (x0 : Int32) (x1 : Int32) (μ : Mem) (K : Int32 → Mem → Prop) : Prop :=
  (K ((x0 * 4) + x1) μ)
def f_X5_outputOf (x0 : Int32) (μ : Mem) (K : Int32 → Mem → Prop) : Prop :=
  (K (x0 - x0 / 10 * 10) μ)
def f_X0_answersDiffer (x0 : Int32) (x1 : Int32) (μ : Mem) (K : Int32 → Mem → Prop) : Prop :=
  ∀ (G10 : Int32 → Int32 → Mem → Prop),
  (∀ (b0 : Int32) (b1 : Int32) (μ : Mem), ((b0 = b1 → (K 0 μ)) ∧ (¬ b0 = b1 → (K 1 μ))) → G10 b0 b1 μ) →
  ((x0 = (-1) → (G10 x0 x1 μ)) ∧ (¬ x0 = (-1) → ((¬ x1 = (-1) → (f_X5_outputOf x0 μ (fun r3 μ4 => f_X5_outputOf x1 μ4 (fun r5 μ6 => (r3 = r5 → (K 0 μ6)) ∧ (¬ r3 = r5 → (K 1 μ6)))))) ∧ (x1 = (-1) → (G10 x0 x1 μ)))))
def f_X0_keepWord (x1 : Int32) (x2 : Int32) (μ : Mem) (K : Mem → Prop) : Prop :=
  ∀ (G29 : Int32 → Int32 → Mem → Prop),
  (∀ (b4 : Int32) (b5 : Int32) (μ : Mem), ((b5 < 0 → (K μ)) ∧ (¬ b5 < 0 → (vp_in b4 64 ∧ (vp_in b5 64 ∧ ∀ μ10 : Mem, μ10 = wI μ 42 (b5 : Int32).toNatClampNeg (μ.1 47 (b4 : Int32).toNatClampNeg) → vp_in b4 64 ∧ (∀ y12 : Int32, y12 = μ10.1 46 (b4 : Int32).toNatClampNeg → ∀ y13 : Int32, y13 = b5 + (-1) → G29 y12 y13 μ10))))) → G29 b4 b5 μ) →
  (vp_in x1 64 ∧ (∀ y2 : Int32, y2 = μ.1 45 (x1 : Int32).toNatClampNeg → ∀ μ3 : Mem, μ3 = wI μ 41 0 (y2 + 1) → vp_in y2 64 ∧ ∀ μ5 : Mem, μ5 = wI μ3 42 (y2 : Int32).toNatClampNeg x2 → ∀ y6 : Int32, y6 = y2 - 1 → G29 x1 y6 μ5))
def f_X5_targetOf (x0 : Int32) (μ : Mem) (K : Int32 → Mem → Prop) : Prop :=
  (K (x0 / 10) μ)
def f_X0_search (p1 : Nat) (p2 : Nat) (x3 : Int32) (μ : Mem) (K : Mem → Prop) : Prop :=
  ∀ (G13 : Int32 → Int32 → Mem → Prop) (G45 : Int32 → Int32 → Mem → Prop) (G64 : Int32 → Int32 → Int32 → Mem → Prop) (G145 : Int32 → Int32 → Int32 → Mem → Prop),
  (∀ (b3 : Int32) (b4 : Int32) (μ : Mem), ((64 ≤ b4 → (f_X0_meet 0 0 (-1) 0 μ (fun μ5 => G45 b3 0 μ5))) ∧ (¬ 64 ≤ b4 → (vp_in b4 64 ∧ ∀ μ7 : Mem, μ7 = wI μ 48 (b4 : Int32).toNatClampNeg (vp_nar .boolean 0) → ∀ y8 : Int32, y8 = b4 + 1 → G13 b3 y8 μ7))) → G13 b3 b4 μ) →
  (∀ (b3 : Int32) (b4 : Int32) (μ : Mem), (((μ.1 41 8) ≤ b4 → (K μ)) ∧ (¬ (μ.1 41 8) ≤ b4 → ((64 ≤ b4 → (K μ)) ∧ (¬ 64 ≤ b4 → (G64 b3 b4 0 μ))))) → G45 b3 b4 μ) →
  (∀ (b3 : Int32) (b4 : Int32) (b5 : Int32) (μ : Mem), ((b3 ≤ b5 → (∀ y12 : Int32, y12 = b4 + 1 → G45 b3 y12 μ)) ∧ (¬ b3 ≤ b5 → (vp_in b4 64 ∧ (f_X5_cellOf (μ.1 43 (b4 : Int32).toNatClampNeg) b5 μ (fun r14 μ15 => vp_in r14 32 ∧ (∀ y17 : Int32, y17 = μ15.1 p1 (r14 : Int32).toNatClampNeg → vp_in b4 64 ∧ (f_X5_cellOf (μ15.1 44 (b4 : Int32).toNatClampNeg) b5 μ15 (fun r19 μ20 => vp_in r19 32 ∧ (∀ y22 : Int32, y22 = μ20.1 p2 (r19 : Int32).toNatClampNeg → f_X0_answersDiffer y17 y22 μ20 (fun r23 μ24 => (r23 = 0 → ((y17 = (-1) → (G145 b3 b4 b5 μ24)) ∧ (¬ y17 = (-1) → (f_X5_targetOf y17 μ24 (fun r27 μ28 => f_X5_targetOf y22 μ28 (fun r29 μ30 => f_X0_meet r27 r29 b4 b5 μ30 (fun μ32 => G145 b3 b4 b5 μ32))))))) ∧ (¬ r23 = 0 → (f_X0_keepWord b4 b5 μ24 (fun μ34 => K μ34))))))))))))) → G64 b3 b4 b5 μ) →
  (∀ (b3 : Int32) (b4 : Int32) (b5 : Int32) (μ : Mem), (∀ y35 : Int32, y35 = b5 + 1 → G64 b3 b4 y35 μ) → G145 b3 b4 b5 μ) →
  (∀ μ1 : Mem, μ1 = wI μ 41 0 0 → ∀ μ2 : Mem, μ2 = wI μ1 41 8 0 → G13 x3 0 μ2)
def f_X1_areRivals (p0 : Nat) (p1 : Nat) (μ : Mem) (K : Int32 → Mem → Prop) : Prop :=
  ∀ (G2 : Int32 → Mem → Prop) (G28 : Int32 → Mem → Prop) (G29 : Int32 → Int32 → Mem → Prop) (G45 : Int32 → Mem → Prop),
  (∀ (b2 : Int32) (μ : Mem), ((32 ≤ b2 → (K 0 μ)) ∧ (¬ 32 ≤ b2 → (vp_in b2 32 ∧ (((μ.1 p0 (b2 : Int32).toNatClampNeg) = (-2) → (G28 b2 μ)) ∧ (¬ (μ.1 p0 (b2 : Int32).toNatClampNeg) = (-2) → (vp_in b2 32 ∧ (((μ.1 p1 (b2 : Int32).toNatClampNeg) = (-2) → (G28 b2 μ)) ∧ (¬ (μ.1 p1 (b2 : Int32).toNatClampNeg) = (-2) → (G29 b2 1 μ))))))))) → G2 b2 μ) →
  (∀ (b2 : Int32) (μ : Mem), (G29 b2 0 μ) → G28 b2 μ) →
  (∀ (b2 : Int32) (z0 : Int32) (μ : Mem), ((z0 = 0 → (G45 b2 μ)) ∧ (¬ z0 = 0 → (vp_in b2 32 ∧ (vp_in b2 32 ∧ (((μ.1 p0 (b2 : Int32).toNatClampNeg) = (μ.1 p1 (b2 : Int32).toNatClampNeg) → (G45 b2 μ)) ∧ (¬ (μ.1 p0 (b2 : Int32).toNatClampNeg) = (μ.1 p1 (b2 : Int32).toNatClampNeg) → (K 1 μ))))))) → G29 b2 z0 μ) →
  (∀ (b2 : Int32) (μ : Mem), (∀ y10 : Int32, y10 = b2 + 1 → G2 y10 μ) → G45 b2 μ) →
  (G2 0 μ)
def f_X1_findRivals (O1 : Nat) (μ : Mem) (K : Mem → Prop) : Prop :=
  ∀ (G2 : Int32 → Mem → Prop) (G19 : Int32 → Int32 → Mem → Prop) (G57 : Int32 → Int32 → Mem → Prop),
  (∀ (b2 : Int32) (μ : Mem), (((μ.1 O1 2) ≤ b2 → (K μ)) ∧ (¬ (μ.1 O1 2) ≤ b2 → (vp_in b2 6 ∧ ∀ μ3 : Mem, μ3 = wI μ 66 (b2 : Int32).toNatClampNeg 0 → G19 b2 0 μ3))) → G2 b2 μ) →
  (∀ (b2 : Int32) (b3 : Int32) (μ : Mem), (((μ.1 O1 2) ≤ b3 → (∀ y5 : Int32, y5 = b2 + 1 → G2 y5 μ)) ∧ (¬ (μ.1 O1 2) ≤ b3 → (vp_in b2 6 ∧ (vp_in b3 6 ∧ (f_X1_areRivals ((O1+3) + (b2 : Int32).toNatClampNeg) ((O1+3) + (b3 : Int32).toNatClampNeg) μ (fun r8 μ9 => (r8 = 0 → (G57 b2 b3 μ9)) ∧ (¬ r8 = 0 → (vp_in b2 6 ∧ (vp_in b2 6 ∧ ∀ μ13 : Mem, μ13 = wI μ9 66 (b2 : Int32).toNatClampNeg ((μ9.1 66 (b2 : Int32).toNatClampNeg) ||| (1 <<< (b3 &&& 31))) → G57 b2 b3 μ13))))))))) → G19 b2 b3 μ) →
  (∀ (b2 : Int32) (b3 : Int32) (μ : Mem), (∀ y14 : Int32, y14 = b3 + 1 → G19 b2 y14 μ) → G57 b2 b3 μ) →
  (G2 0 μ)
def f_X5_copyRow (p0 : Nat) (p1 : Nat) (μ : Mem) (K : Mem → Prop) : Prop :=
  (((¬ (0 : Int32) < 0 ∧ ¬ (0 : Int32) < 0 ∧ ¬ (32 : Int32) < 0) ∧ (0 : Int32).toNatClampNeg + (32 : Int32).toNatClampNeg ≤ 32 ∧ (0 : Int32).toNatClampNeg + (32 : Int32).toNatClampNeg ≤ 32) ∧ ∀ μ2 : Mem, μ2 = wA μ p1 (va_cpy (μ.1 p0) (μ.1 p1) (0 : Int32).toNatClampNeg (0 : Int32).toNatClampNeg (32 : Int32).toNatClampNeg) → K μ2)
def f_J7_fill_53178 (p0 : Nat) (n0 : Nat) (x1 : Int32) (μ : Mem) (K : Mem → Prop) : Prop :=
  ∀ (G5 : Int32 → Int32 → Int32 → Mem → Prop),
  (∀ (b1 : Int32) (b2 : Int32) (b3 : Int32) (μ : Mem), ((b3 ≤ b2 → (K μ)) ∧ (¬ b3 ≤ b2 → (vp_in b2 n0 ∧ ∀ μ4 : Mem, μ4 = wI μ p0 (b2 : Int32).toNatClampNeg b1 → ∀ y5 : Int32, y5 = b2 + 1 → G5 b1 y5 b3 μ4))) → G5 b1 b2 b3 μ) →
  (∀ y1 : Int32, y1 = nI n0 → G5 x1 0 y1 μ)
def f_X5_arrowOf (x0 : Int32) (x1 : Int32) (μ : Mem) (K : Int32 → Mem → Prop) : Prop :=
  (K ((10 * x0) + x1) μ)
def f_X3_signatureOf (p0 : Nat) (x1 : Int32) (x2 : Int32) (p3 : Nat) (μ : Mem) (K : Int32 → Mem → Prop) : Prop :=
  ∀ (G6 : Int32 → Int32 → Int32 → Int32 → Mem → Prop) (G50 : Int32 → Int32 → Int32 → Int32 → Int32 → Mem → Prop),
  (∀ (b1 : Int32) (b2 : Int32) (b4 : Int32) (b5 : Int32) (μ : Mem), ((b2 ≤ b5 → (K b4 μ)) ∧ (¬ b2 ≤ b5 → (f_X5_cellOf b1 b5 μ (fun r2 μ3 => vp_in r2 32 ∧ (∀ y5 : Int32, y5 = μ3.1 p0 (r2 : Int32).toNatClampNeg → (y5 = (-1) → (G50 b1 b2 b4 b5 0 μ3)) ∧ (¬ y5 = (-1) → (f_X5_targetOf y5 μ3 (fun r7 μ8 => vp_in r7 8 ∧ (f_X5_outputOf y5 μ8 (fun r10 μ11 => f_X5_arrowOf (μ8.1 p3 (r7 : Int32).toNatClampNeg) r10 μ11 (fun r12 μ13 => ∀ y14 : Int32, y14 = 1 + r12 → G50 b1 b2 b4 b5 y14 μ13))))))))))) → G6 b1 b2 b4 b5 μ) →
  (∀ (b1 : Int32) (b2 : Int32) (b4 : Int32) (b5 : Int32) (b7 : Int32) (μ : Mem), (∀ y15 : Int32, y15 = (b4 <<< (7 &&& 31)) ||| b7 → ∀ y16 : Int32, y16 = b5 + 1 → G6 b1 b2 y15 y16 μ) → G50 b1 b2 b4 b5 b7 μ) →
  (G6 x1 x2 0 0 μ)
def f_X3_groupBySignature (x1 : Int32) (μ : Mem) (K : Int32 → Mem → Prop) : Prop :=
  ∀ (G4 : Int32 → Int32 → Int32 → Mem → Prop) (G12 : Int32 → Int32 → Int32 → Int32 → Mem → Prop) (G40 : Int32 → Int32 → Int32 → Int32 → Mem → Prop) (G72 : Int32 → Int32 → Int32 → Mem → Prop),
  (∀ (b1 : Int32) (b2 : Int32) (b3 : Int32) (μ : Mem), ((b1 ≤ b3 → (K b2 μ)) ∧ (¬ b1 ≤ b3 → (G12 b1 b2 b3 0 μ))) → G4 b1 b2 b3 μ) →
  (∀ (b1 : Int32) (b2 : Int32) (b3 : Int32) (b4 : Int32) (μ : Mem), ((b3 ≤ b4 → (G40 b1 b2 b3 b4 μ)) ∧ (¬ b3 ≤ b4 → (vp_in b4 8 ∧ (vp_in b3 8 ∧ (((μ.1 53 (b4 : Int32).toNatClampNeg) = (μ.1 53 (b3 : Int32).toNatClampNeg) → (G40 b1 b2 b3 b4 μ)) ∧ (¬ (μ.1 53 (b4 : Int32).toNatClampNeg) = (μ.1 53 (b3 : Int32).toNatClampNeg) → (∀ y6 : Int32, y6 = b4 + 1 → G12 b1 b2 b3 y6 μ))))))) → G12 b1 b2 b3 b4 μ) →
  (∀ (b1 : Int32) (b2 : Int32) (b3 : Int32) (b4 : Int32) (μ : Mem), ((b3 ≤ b4 → (vp_in b3 8 ∧ ∀ μ9 : Mem, μ9 = wI μ 52 (b3 : Int32).toNatClampNeg b2 → ∀ y10 : Int32, y10 = b2 + 1 → G72 b1 y10 b3 μ9)) ∧ (¬ b3 ≤ b4 → (vp_in b4 8 ∧ (vp_in b3 8 ∧ ∀ μ13 : Mem, μ13 = wI μ 52 (b3 : Int32).toNatClampNeg (μ.1 52 (b4 : Int32).toNatClampNeg) → G72 b1 b2 b3 μ13)))) → G40 b1 b2 b3 b4 μ) →
  (∀ (b1 : Int32) (b2 : Int32) (b3 : Int32) (μ : Mem), (∀ y14 : Int32, y14 = b3 + 1 → G4 b1 b2 y14 μ) → G72 b1 b2 b3 μ) →
  (G4 x1 0 0 μ)
def f_X3_groupStates (p1 : Nat) (x2 : Int32) (x3 : Int32) (μ : Mem) (K : Mem → Prop) : Prop :=
  ∀ (G17 : Int32 → Int32 → Int32 → Int32 → Int32 → Mem → Prop) (G31 : Int32 → Int32 → Int32 → Int32 → Int32 → Mem → Prop) (G80 : Int32 → Int32 → Int32 → Int32 → Int32 → Mem → Prop),
  (∀ (b2 : Int32) (b3 : Int32) (b4 : Int32) (b5 : Int32) (b6 : Int32) (μ : Mem), ((b2 ≤ b6 → (K μ)) ∧ (¬ b2 ≤ b6 → ((b5 = 0 → (K μ)) ∧ (¬ b5 = 0 → (G31 b2 b3 b4 b6 0 μ))))) → G17 b2 b3 b4 b5 b6 μ) →
  (∀ (b2 : Int32) (b3 : Int32) (b4 : Int32) (b6 : Int32) (b7 : Int32) (μ : Mem), ((b2 ≤ b7 → (f_X3_groupBySignature b2 μ (fun r6 μ7 => (r6 ≤ b4 → (G80 b2 b3 b6 r6 0 μ7)) ∧ (¬ r6 ≤ b4 → (G80 b2 b3 b6 r6 1 μ7))))) ∧ (¬ b2 ≤ b7 → (f_X3_signatureOf p1 b7 b3 52 μ (fun r9 μ10 => vp_in b7 8 ∧ ∀ μ12 : Mem, μ12 = wI μ10 53 (b7 : Int32).toNatClampNeg r9 → ∀ y13 : Int32, y13 = b7 + 1 → G31 b2 b3 b4 b6 y13 μ12)))) → G31 b2 b3 b4 b6 b7 μ) →
  (∀ (b2 : Int32) (b3 : Int32) (b6 : Int32) (b7 : Int32) (z0 : Int32) (μ : Mem), (∀ y14 : Int32, y14 = b6 + 1 → G17 b2 b3 b7 z0 y14 μ) → G80 b2 b3 b6 b7 z0 μ) →
  (f_J7_fill_53178 52 8 0 μ (fun μ2 => G17 x2 x3 1 1 0 μ2))
def f_X3_numberGroupOf (x1 : Int32) (x2 : Int32) (μ : Mem) (K : Mem → Prop) : Prop :=
  ∀ (G31 : Int32 → Int32 → Int32 → Mem → Prop) (G61 : Int32 → Int32 → Int32 → Mem → Prop),
  (∀ (b1 : Int32) (b2 : Int32) (b3 : Int32) (μ : Mem), ((b2 ≤ b3 → (∀ μ7 : Mem, μ7 = wI μ 50 5 ((μ.1 50 5) + 1) → K μ7)) ∧ (¬ b2 ≤ b3 → (vp_in b3 8 ∧ (vp_in b1 8 ∧ ((¬ (μ.1 52 (b3 : Int32).toNatClampNeg) = (μ.1 52 (b1 : Int32).toNatClampNeg) → (G61 b1 b2 b3 μ)) ∧ ((μ.1 52 (b3 : Int32).toNatClampNeg) = (μ.1 52 (b1 : Int32).toNatClampNeg) → (vp_in b3 8 ∧ ∀ μ12 : Mem, μ12 = wI μ 54 (b3 : Int32).toNatClampNeg (μ.1 50 5) → G61 b1 b2 b3 μ12))))))) → G31 b1 b2 b3 μ) →
  (∀ (b1 : Int32) (b2 : Int32) (b3 : Int32) (μ : Mem), (∀ y13 : Int32, y13 = b3 + 1 → G31 b1 b2 y13 μ) → G61 b1 b2 b3 μ) →
  (vp_in x1 8 ∧ ((0 ≤ (μ.1 54 (x1 : Int32).toNatClampNeg) → (K μ)) ∧ (¬ 0 ≤ (μ.1 54 (x1 : Int32).toNatClampNeg) → (((μ.1 50 5) < 8 → (vp_in (μ.1 50 5) 8 ∧ ∀ μ5 : Mem, μ5 = wI μ 55 (μ.1 50 5 : Int32).toNatClampNeg x1 → G31 x1 x2 0 μ5)) ∧ (¬ (μ.1 50 5) < 8 → (K μ))))))
def f_X3_numberGroups (p1 : Nat) (x2 : Int32) (x3 : Int32) (μ : Mem) (K : Mem → Prop) : Prop :=
  ∀ (G22 : Int32 → Int32 → Int32 → Mem → Prop) (G41 : Int32 → Int32 → Int32 → Int32 → Mem → Prop) (G79 : Int32 → Int32 → Int32 → Int32 → Mem → Prop),
  (∀ (b2 : Int32) (b3 : Int32) (b4 : Int32) (μ : Mem), (((μ.1 50 5) ≤ b4 → (K μ)) ∧ (¬ (μ.1 50 5) ≤ b4 → ((8 ≤ b4 → (K μ)) ∧ (¬ 8 ≤ b4 → (G41 b2 b3 b4 0 μ))))) → G22 b2 b3 b4 μ) →
  (∀ (b2 : Int32) (b3 : Int32) (b4 : Int32) (b5 : Int32) (μ : Mem), ((b3 ≤ b5 → (∀ y9 : Int32, y9 = b4 + 1 → G22 b2 b3 y9 μ)) ∧ (¬ b3 ≤ b5 → (vp_in b4 8 ∧ (f_X5_cellOf (μ.1 55 (b4 : Int32).toNatClampNeg) b5 μ (fun r11 μ12 => vp_in r11 32 ∧ (∀ y14 : Int32, y14 = μ12.1 p1 (r11 : Int32).toNatClampNeg → (y14 = (-1) → (G79 b2 b3 b4 b5 μ12)) ∧ (¬ y14 = (-1) → (f_X5_targetOf y14 μ12 (fun r16 μ17 => f_X3_numberGroupOf r16 b2 μ17 (fun μ19 => G79 b2 b3 b4 b5 μ19)))))))))) → G41 b2 b3 b4 b5 μ) →
  (∀ (b2 : Int32) (b3 : Int32) (b4 : Int32) (b5 : Int32) (μ : Mem), (∀ y20 : Int32, y20 = b5 + 1 → G41 b2 b3 b4 y20 μ) → G79 b2 b3 b4 b5 μ) →
  (f_J7_fill_53178 54 8 (-1) μ (fun μ2 => ∀ μ3 : Mem, μ3 = wI μ2 50 5 0 → f_X3_numberGroupOf 0 x2 μ3 (fun μ5 => G22 x2 x3 0 μ5)))
def f_J7_fill_d0a16 (p0 : Nat) (n0 : Nat) (x1 : Int64) (μ : Mem) (K : Mem → Prop) : Prop :=
  ∀ (G6 : Int64 → Int32 → Int32 → Mem → Prop),
  (∀ (b1 : Int64) (b3 : Int32) (b4 : Int32) (μ : Mem), ((b4 ≤ b3 → (K μ)) ∧ (¬ b4 ≤ b3 → (vp_in b3 n0 ∧ ∀ μ4 : Mem, μ4 = wJ μ p0 (b3 : Int32).toNatClampNeg b1 → ∀ y5 : Int32, y5 = b3 + 1 → G6 b1 y5 b4 μ4))) → G6 b1 b3 b4 μ) →
  (∀ y1 : Int32, y1 = nI n0 → G6 x1 0 y1 μ)
def f_X3_take (p1 : Nat) (x2 : Int32) (x3 : Int32) (μ : Mem) (K : Mem → Prop) : Prop :=
  ∀ (G25 : Int32 → Int32 → Mem → Prop),
  (∀ (b3 : Int32) (b4 : Int32) (μ : Mem), (((μ.1 50 5) ≤ b4 → (K μ)) ∧ (¬ (μ.1 50 5) ≤ b4 → (vp_in b4 8 ∧ (f_X3_signatureOf p1 (μ.1 55 (b4 : Int32).toNatClampNeg) b3 54 μ (fun r9 μ10 => vp_in (b4 / 2) 4 ∧ (vp_in (b4 / 2) 4 ∧ ∀ μ13 : Mem, μ13 = wJ μ10 51 (b4 / 2 : Int32).toNatClampNeg (((μ10.2 51 (b4 / 2 : Int32).toNatClampNeg) <<< ((28 : Int32).toInt64 &&& 63)) ||| ((r9 : Int32).toInt64)) → ∀ y14 : Int32, y14 = b4 + 1 → G25 b3 y14 μ13)))))) → G25 b3 b4 μ) →
  (f_X3_groupStates p1 x2 x3 μ (fun μ2 => f_X3_numberGroups p1 x2 x3 μ2 (fun μ4 => f_J7_fill_d0a16 51 4 0 μ4 (fun μ6 => G25 x3 0 μ6))))
def f_X1_isFormAt (x1 : Int32) (μ : Mem) (K : Int32 → Mem → Prop) : Prop :=
  ∀ (G2 : Int32 → Int32 → Mem → Prop),
  (∀ (b1 : Int32) (b2 : Int32) (μ : Mem), ((4 ≤ b2 → (K 1 μ)) ∧ (¬ 4 ≤ b2 → (vp_in (b1 + b2) 2880 ∧ (vp_in b2 4 ∧ (((lg_cmp (μ.2 56 (b1 + b2 : Int32).toNatClampNeg) (μ.2 51 (b2 : Int32).toNatClampNeg)) = 0 → (∀ y5 : Int32, y5 = b2 + 1 → G2 b1 y5 μ)) ∧ (¬ (lg_cmp (μ.2 56 (b1 + b2 : Int32).toNatClampNeg) (μ.2 51 (b2 : Int32).toNatClampNeg)) = 0 → (K 0 μ))))))) → G2 b1 b2 μ) →
  (G2 x1 0 μ)
def f_X1_isKnown  (μ : Mem) (K : Int32 → Mem → Prop) : Prop :=
  ∀ (G2 : Int32 → Mem → Prop),
  (∀ (b1 : Int32) (μ : Mem), (((μ.1 49 2) ≤ b1 → (K 0 μ)) ∧ (¬ (μ.1 49 2) ≤ b1 → (f_X1_isFormAt (b1 * 4) μ (fun r2 μ3 => (r2 = 0 → (∀ y5 : Int32, y5 = b1 + 1 → G2 y5 μ3)) ∧ (¬ r2 = 0 → (K 1 μ3)))))) → G2 b1 μ) →
  (G2 0 μ)
def f_X1_keepForm  (μ : Mem) (K : Mem → Prop) : Prop :=
  (((μ.1 49 3) ≤ (μ.1 49 2) → (K μ)) ∧ (¬ (μ.1 49 3) ≤ (μ.1 49 2) → (f_X1_isKnown  μ (fun r2 μ3 => (r2 = 0 → (((¬ (0 : Int32) < 0 ∧ ¬ ((μ3.1 49 2) * 4 : Int32) < 0 ∧ ¬ (4 : Int32) < 0) ∧ (0 : Int32).toNatClampNeg + (4 : Int32).toNatClampNeg ≤ 4 ∧ ((μ3.1 49 2) * 4 : Int32).toNatClampNeg + (4 : Int32).toNatClampNeg ≤ 2880) ∧ ∀ μ6 : Mem, μ6 = wB μ3 56 (va_cpy (μ3.2 51) (μ3.2 56) (0 : Int32).toNatClampNeg ((μ3.1 49 2) * 4 : Int32).toNatClampNeg (4 : Int32).toNatClampNeg) → ∀ μ7 : Mem, μ7 = wI μ6 49 2 ((μ6.1 49 2) + 1) → K μ7)) ∧ (¬ r2 = 0 → (K μ3))))))
def f_X5_hasBit (x0 : Int32) (x1 : Int32) (μ : Mem) (K : Int32 → Mem → Prop) : Prop :=
  ((¬ ((x0 >>> (x1 &&& 31)) &&& 1) = 1 → (K 0 μ)) ∧ (((x0 >>> (x1 &&& 31)) &&& 1) = 1 → (K 1 μ)))
def f_X1_isRepeat (x1 : Int32) (x2 : Int32) (μ : Mem) (K : Int32 → Mem → Prop) : Prop :=
  ((x1 ≤ x2 → (K 0 μ)) ∧ (¬ x1 ≤ x2 → (vp_in x1 6 ∧ (f_X5_hasBit (μ.1 66 (x1 : Int32).toNatClampNeg) x2 μ (fun r3 μ4 => (¬ r3 = 0 → (K 0 μ4)) ∧ (r3 = 0 → (vp_in x2 6 ∧ (f_X5_hasBit (μ4.1 65 (x2 : Int32).toNatClampNeg) x1 μ4 (fun r7 μ8 => (¬ r7 = 0 → (K 0 μ8)) ∧ (r7 = 0 → (K 1 μ8)))))))))))
def f_X5_putOn (p0 : Nat) (p1 : Nat) (p2 : Nat) (μ : Mem) (K : Mem → Prop) : Prop :=
  ∀ (G2 : Int32 → Mem → Prop) (G27 : Int32 → Int32 → Int32 → Mem → Prop),
  (∀ (b3 : Int32) (μ : Mem), ((32 ≤ b3 → (K μ)) ∧ (¬ 32 ≤ b3 → (vp_in b3 32 ∧ ((¬ (μ.1 p1 (b3 : Int32).toNatClampNeg) = (-2) → (vp_in b3 32 ∧ (G27 b3 (μ.1 p1 (b3 : Int32).toNatClampNeg) b3 μ))) ∧ ((μ.1 p1 (b3 : Int32).toNatClampNeg) = (-2) → (vp_in b3 32 ∧ (G27 b3 (μ.1 p0 (b3 : Int32).toNatClampNeg) b3 μ))))))) → G2 b3 μ) →
  (∀ (b3 : Int32) (z0 : Int32) (z1 : Int32) (μ : Mem), (vp_in z1 32 ∧ ∀ μ7 : Mem, μ7 = wI μ p2 (z1 : Int32).toNatClampNeg z0 → ∀ y8 : Int32, y8 = b3 + 1 → G2 y8 μ7) → G27 b3 z0 z1 μ) →
  (G2 0 μ)
def f_X1_walkOrders : Nat → Nat → Int32 → Int32 → Int32 → Mem → (Mem → Prop) → Prop
  | 0, _, _, _, _, _, _ => False
  | d + 1, O1, x2, x3, x4, μ, K =>
  ∀ (G10 : Int32 → Mem → Prop) (G39 : Int32 → Int32 → Int32 → Int32 → Mem → Prop) (G84 : Int32 → Int32 → Int32 → Int32 → Mem → Prop) (G85 : Int32 → Int32 → Int32 → Int32 → Int32 → Mem → Prop) (G145 : Int32 → Int32 → Int32 → Int32 → Mem → Prop),
  (∀ (b2 : Int32) (μ : Mem), (vp_in b2 7 ∧ (f_X3_take (58 + (b2 : Int32).toNatClampNeg) (μ.1 O1 0) (μ.1 O1 1) μ (fun μ5 => f_X1_keepForm  μ5 (fun μ7 => K μ7)))) → G10 b2 μ) →
  (∀ (b2 : Int32) (b3 : Int32) (b4 : Int32) (b5 : Int32) (μ : Mem), (((μ.1 O1 2) ≤ b5 → (K μ)) ∧ (¬ (μ.1 O1 2) ≤ b5 → (((μ.1 49 3) ≤ (μ.1 49 2) → (K μ)) ∧ (¬ (μ.1 49 3) ≤ (μ.1 49 2) → (f_X5_hasBit b3 b5 μ (fun r10 μ11 => (r10 = 0 → (G84 b2 b3 b4 b5 μ11)) ∧ (¬ r10 = 0 → (vp_in b5 6 ∧ ((¬ ((μ11.1 65 (b5 : Int32).toNatClampNeg) &&& b3) = 0 → (G84 b2 b3 b4 b5 μ11)) ∧ (((μ11.1 65 (b5 : Int32).toNatClampNeg) &&& b3) = 0 → (G85 b2 b3 b4 b5 1 μ11))))))))))) → G39 b2 b3 b4 b5 μ) →
  (∀ (b2 : Int32) (b3 : Int32) (b4 : Int32) (b5 : Int32) (μ : Mem), (G85 b2 b3 b4 b5 0 μ) → G84 b2 b3 b4 b5 μ) →
  (∀ (b2 : Int32) (b3 : Int32) (b4 : Int32) (b5 : Int32) (z0 : Int32) (μ : Mem), ((z0 = 0 → (G145 b2 b3 b4 b5 μ)) ∧ (¬ z0 = 0 → (f_X1_isRepeat b4 b5 μ (fun r16 μ17 => (¬ r16 = 0 → (G145 b2 b3 b4 b5 μ17)) ∧ (r16 = 0 → (vp_in b2 7 ∧ (vp_in b5 6 ∧ (vp_in (b2 + 1) 7 ∧ (f_X5_putOn (58 + (b2 : Int32).toNatClampNeg) ((O1+3) + (b5 : Int32).toNatClampNeg) (58 + (b2 + 1 : Int32).toNatClampNeg) μ17 (fun μ23 => f_X1_walkOrders d O1 (b2 + 1) (b3 &&& ((1 <<< (b5 &&& 31)) ^^^ (-1))) b5 μ23 (fun μ25 => G145 b2 b3 b4 b5 μ25))))))))))) → G85 b2 b3 b4 b5 z0 μ) →
  (∀ (b2 : Int32) (b3 : Int32) (b4 : Int32) (b5 : Int32) (μ : Mem), (∀ y26 : Int32, y26 = b5 + 1 → G39 b2 b3 b4 y26 μ) → G145 b2 b3 b4 b5 μ) →
  ((x3 = 0 → (G10 x2 μ)) ∧ (¬ x3 = 0 → ((x2 < 6 → (G39 x2 x3 x4 0 μ)) ∧ (¬ x2 < 6 → (G10 x2 μ)))))
def f_X1_countKinds (O1 : Nat) (x2 : Int32) (x3 : Int32) (μ : Mem) (K : Int32 → Mem → Prop) : Prop :=
  ∀ (G3 : Int32 → Int32 → Int32 → Mem → Prop) (G31 : Int32 → Int32 → Int32 → Int32 → Int32 → Mem → Prop),
  (∀ (b2 : Int32) (b3 : Int32) (b4 : Int32) (μ : Mem), ((6 ≤ b4 → (∀ μ2 : Mem, μ2 = wI μ 49 3 (if 720 < b3 then 720 else b3) → ∀ μ3 : Mem, μ3 = wI μ2 49 2 0 → f_X1_findRivals O1 μ3 (fun μ5 => vp_in 0 7 ∧ (f_X5_copyRow (O1+1) (58 + (0 : Int32).toNatClampNeg) μ5 (fun μ8 => f_X1_walkOrders 8 O1 0 (μ8.1 O1 3) (-1) μ8 (fun μ10 => K (μ10.1 49 2) μ10)))))) ∧ (¬ 6 ≤ b4 → ((b2 = 0 → (G31 b2 b3 b4 0 b4 μ)) ∧ (¬ b2 = 0 → (vp_in b4 6 ∧ (G31 b2 b3 b4 (μ.1 (O1+9) (b4 : Int32).toNatClampNeg) b4 μ)))))) → G3 b2 b3 b4 μ) →
  (∀ (b2 : Int32) (b3 : Int32) (b4 : Int32) (z0 : Int32) (z1 : Int32) (μ : Mem), (vp_in z1 6 ∧ ∀ μ14 : Mem, μ14 = wI μ 65 (z1 : Int32).toNatClampNeg z0 → ∀ y15 : Int32, y15 = b4 + 1 → G3 b2 b3 y15 μ14) → G31 b2 b3 b4 z0 z1 μ) →
  (G3 x2 x3 0 μ)
def f_X2_startAnew (B : Nat) (x1 : Int32) (x2 : Int32) (μ : Mem) (K : Mem → Prop) : Prop :=
  (∀ μ1 : Mem, μ1 = wI μ B 0 x1 → ∀ μ2 : Mem, μ2 = wI μ1 B 1 x2 → ∀ μ3 : Mem, μ3 = wI μ2 B 2 0 → ∀ μ4 : Mem, μ4 = wI μ3 B 3 0 → f_J7_fill_53178 (B+1) 32 (-1) μ4 (fun μ6 => f_J7_fill_53178 (B+9) 6 0 μ6 (fun μ8 => K μ8)))
def f_X2_copyFrom (B : Nat) (O1 : Nat) (μ : Mem) (K : Mem → Prop) : Prop :=
  ∀ (G45 : Int32 → Mem → Prop),
  (∀ (b2 : Int32) (μ : Mem), ((6 ≤ b2 → (K μ)) ∧ (¬ 6 ≤ b2 → (vp_in b2 6 ∧ (vp_in b2 6 ∧ (f_X5_copyRow ((O1+3) + (b2 : Int32).toNatClampNeg) ((B+3) + (b2 : Int32).toNatClampNeg) μ (fun μ11 => vp_in b2 6 ∧ (vp_in b2 6 ∧ ∀ μ14 : Mem, μ14 = wI μ11 (B+9) (b2 : Int32).toNatClampNeg (μ11.1 (O1+9) (b2 : Int32).toNatClampNeg) → ∀ y15 : Int32, y15 = b2 + 1 → G45 y15 μ14))))))) → G45 b2 μ) →
  (∀ μ1 : Mem, μ1 = wI μ B 0 (μ.1 O1 0) → ∀ μ2 : Mem, μ2 = wI μ1 B 1 (μ1.1 O1 1) → ∀ μ3 : Mem, μ3 = wI μ2 B 2 (μ2.1 O1 2) → ∀ μ4 : Mem, μ4 = wI μ3 B 3 (μ3.1 O1 3) → f_X5_copyRow (O1+1) (B+1) μ4 (fun μ6 => G45 0 μ6))
def f_X2_hasState (B : Nat) (x1 : Int32) (μ : Mem) (K : Int32 → Mem → Prop) : Prop :=
  ((x1 < 0 → (K 0 μ)) ∧ (¬ x1 < 0 → (((μ.1 B 0) ≤ x1 → (K 0 μ)) ∧ (¬ (μ.1 B 0) ≤ x1 → (K 1 μ)))))
def f_X2_hasLetter (B : Nat) (x1 : Int32) (μ : Mem) (K : Int32 → Mem → Prop) : Prop :=
  ((x1 < 0 → (K 0 μ)) ∧ (¬ x1 < 0 → (((μ.1 B 1) ≤ x1 → (K 0 μ)) ∧ (¬ (μ.1 B 1) ≤ x1 → (K 1 μ)))))
def f_X2_hasCell (B : Nat) (x1 : Int32) (x2 : Int32) (μ : Mem) (K : Int32 → Mem → Prop) : Prop :=
  (f_X2_hasState B x1 μ (fun r1 μ2 => (r1 = 0 → (K 0 μ2)) ∧ (¬ r1 = 0 → (f_X2_hasLetter B x2 μ2 (fun r4 μ5 => (r4 = 0 → (K 0 μ5)) ∧ (¬ r4 = 0 → (K 1 μ5)))))))
def f_X2_hasFeature (B : Nat) (x1 : Int32) (μ : Mem) (K : Int32 → Mem → Prop) : Prop :=
  ((x1 < 0 → (K 0 μ)) ∧ (¬ x1 < 0 → (((μ.1 B 2) ≤ x1 → (K 0 μ)) ∧ (¬ (μ.1 B 2) ≤ x1 → (K 1 μ)))))
def f_X2_turn (B : Nat) (x1 : Int32) (x2 : Int32) (μ : Mem) (K : Mem → Prop) : Prop :=
  ((x2 = 0 → (∀ μ2 : Mem, μ2 = wI μ B 3 ((μ.1 B 3) &&& ((1 <<< (x1 &&& 31)) ^^^ (-1))) → K μ2)) ∧ (¬ x2 = 0 → (∀ μ3 : Mem, μ3 = wI μ B 3 ((μ.1 B 3) ||| (1 <<< (x1 &&& 31))) → K μ3)))
def f_X2_makeFeature (B : Nat) (μ : Mem) (K : Int32 → Mem → Prop) : Prop :=
  (∀ y1 : Int32, y1 = μ.1 B 2 → vp_in y1 6 ∧ (f_J7_fill_53178 ((B+3) + (y1 : Int32).toNatClampNeg) 32 (-2) μ (fun μ4 => f_X2_turn B y1 1 μ4 (fun μ6 => ∀ μ7 : Mem, μ7 = wI μ6 B 2 ((μ6.1 B 2) + 1) → K y1 μ7))))
def f_X2_countEdits (B : Nat) (x1 : Int32) (μ : Mem) (K : Int32 → Mem → Prop) : Prop :=
  ∀ (G4 : Int32 → Int32 → Int32 → Mem → Prop) (G26 : Int32 → Int32 → Int32 → Mem → Prop),
  (∀ (b1 : Int32) (b2 : Int32) (b3 : Int32) (μ : Mem), ((32 ≤ b3 → (K b2 μ)) ∧ (¬ 32 ≤ b3 → (vp_in b1 6 ∧ (vp_in b3 32 ∧ (((μ.1 ((B+3) + (b1 : Int32).toNatClampNeg) (b3 : Int32).toNatClampNeg) = (-2) → (G26 b1 b2 b3 μ)) ∧ (¬ (μ.1 ((B+3) + (b1 : Int32).toNatClampNeg) (b3 : Int32).toNatClampNeg) = (-2) → (∀ y5 : Int32, y5 = b2 + 1 → G26 b1 y5 b3 μ))))))) → G4 b1 b2 b3 μ) →
  (∀ (b1 : Int32) (b2 : Int32) (b3 : Int32) (μ : Mem), (∀ y6 : Int32, y6 = b3 + 1 → G4 b1 b2 y6 μ) → G26 b1 b2 b3 μ) →
  (G4 x1 0 0 μ)
def f_X2_isOn (B : Nat) (x1 : Int32) (μ : Mem) (K : Int32 → Mem → Prop) : Prop :=
  (f_X5_hasBit (μ.1 B 3) x1 μ (fun r1 μ2 => isB r1 ∧ K r1 μ2))
def f_X2_stands (B : Nat) (x1 : Int32) (x2 : Int32) (μ : Mem) (K : Int32 → Mem → Prop) : Prop :=
  (vp_in x2 6 ∧ (f_X5_hasBit (μ.1 (B+9) (x2 : Int32).toNatClampNeg) x1 μ (fun r2 μ3 => isB r2 ∧ K r2 μ3)))
def f_X2_prefer (B : Nat) (x1 : Int32) (x2 : Int32) (μ : Mem) (K : Mem → Prop) : Prop :=
  ∀ (G14 : Int32 → Int32 → Int32 → Mem → Prop) (G37 : Int32 → Int32 → Int32 → Mem → Prop) (G48 : Int32 → Int32 → Int32 → Mem → Prop),
  (∀ (b2 : Int32) (b3 : Int32) (b4 : Int32) (μ : Mem), ((6 ≤ b4 → (K μ)) ∧ (¬ 6 ≤ b4 → ((b4 = b2 → (G37 b2 b3 b4 μ)) ∧ (¬ b4 = b2 → (f_X2_stands B b2 b4 μ (fun r5 μ6 => (r5 = 0 → (G48 b2 b3 b4 μ6)) ∧ (¬ r5 = 0 → (G37 b2 b3 b4 μ6)))))))) → G14 b2 b3 b4 μ) →
  (∀ (b2 : Int32) (b3 : Int32) (b4 : Int32) (μ : Mem), (vp_in b4 6 ∧ (vp_in b4 6 ∧ ∀ μ10 : Mem, μ10 = wI μ (B+9) (b4 : Int32).toNatClampNeg ((μ.1 (B+9) (b4 : Int32).toNatClampNeg) ||| b3) → G48 b2 b3 b4 μ10)) → G37 b2 b3 b4 μ) →
  (∀ (b2 : Int32) (b3 : Int32) (b4 : Int32) (μ : Mem), (∀ y11 : Int32, y11 = b4 + 1 → G14 b2 b3 y11 μ) → G48 b2 b3 b4 μ) →
  (vp_in x1 6 ∧ (∀ y2 : Int32, y2 = (μ.1 (B+9) (x1 : Int32).toNatClampNeg) ||| (1 <<< (x1 &&& 31)) → G14 x2 y2 0 μ))
def f_J6_bitCount_0f7a4 (x0 : Int32) (μ : Mem) (K : Int32 → Mem → Prop) : Prop :=
  (∀ y1 : Int32, y1 = x0 - (((x0.toUInt32 >>> ((1 : Int32).toUInt32 &&& Int32.toUInt32 31)).toInt32) &&& 1431655765) → ∀ y2 : Int32, y2 = (y1 &&& 858993459) + (((y1.toUInt32 >>> ((2 : Int32).toUInt32 &&& Int32.toUInt32 31)).toInt32) &&& 858993459) → ∀ y3 : Int32, y3 = (y2 + ((y2.toUInt32 >>> ((4 : Int32).toUInt32 &&& Int32.toUInt32 31)).toInt32)) &&& 252645135 → ∀ y4 : Int32, y4 = y3 + ((y3.toUInt32 >>> ((8 : Int32).toUInt32 &&& Int32.toUInt32 31)).toInt32) → ∀ y5 : Int32, y5 = y4 + ((y4.toUInt32 >>> ((16 : Int32).toUInt32 &&& Int32.toUInt32 31)).toInt32) → K (y5 &&& 63) μ)
def f_X2_countPriorities (B : Nat) (μ : Mem) (K : Int32 → Mem → Prop) : Prop :=
  ∀ (G4 : Int32 → Int32 → Mem → Prop),
  (∀ (b1 : Int32) (b2 : Int32) (μ : Mem), ((6 ≤ b2 → (K b1 μ)) ∧ (¬ 6 ≤ b2 → (vp_in b2 6 ∧ (f_J6_bitCount_0f7a4 (μ.1 (B+9) (b2 : Int32).toNatClampNeg) μ (fun r3 μ4 => ∀ y5 : Int32, y5 = b1 + r3 → ∀ y6 : Int32, y6 = b2 + 1 → G4 y5 y6 μ4))))) → G4 b1 b2 μ) →
  (G4 0 0 μ)
def f_X4_takesState (x1 : Int32) (μ : Mem) (K : Int32 → Mem → Prop) : Prop :=
  (∀ μ1 : Mem, μ1 = wI μ 33 7 (x1 - 48) → ∀ μ2 : Mem, μ2 = wI μ1 33 6 1 → ((μ2.1 33 7) < 0 → (K 0 μ2)) ∧ (¬ (μ2.1 33 7) < 0 → (((μ2.1 33 4) ≤ (μ2.1 33 7) → (K 0 μ2)) ∧ (¬ (μ2.1 33 4) ≤ (μ2.1 33 7) → (K 1 μ2)))))
def f_X4_takesLetter (x1 : Int32) (μ : Mem) (K : Int32 → Mem → Prop) : Prop :=
  (∀ y1 : Int32, y1 = x1 - 97 → (y1 < 0 → (K 0 μ)) ∧ (¬ y1 < 0 → ((y1 < (μ.1 33 5) → (f_X5_cellOf (μ.1 33 7) y1 μ (fun r4 μ5 => ∀ μ6 : Mem, μ6 = wI μ5 33 8 r4 → ∀ μ7 : Mem, μ7 = wI μ6 33 6 2 → vp_in (μ7.1 33 8) 32 ∧ ((¬ (μ7.1 35 (μ7.1 33 8 : Int32).toNatClampNeg) = (-2) → (K 0 μ7)) ∧ ((μ7.1 35 (μ7.1 33 8 : Int32).toNatClampNeg) = (-2) → (K 1 μ7)))))) ∧ (¬ y1 < (μ.1 33 5) → (K 0 μ)))))
def f_X4_takesKind (x1 : Int32) (μ : Mem) (K : Int32 → Mem → Prop) : Prop :=
  ((¬ x1 = 45 → (∀ μ2 : Mem, μ2 = wI μ 33 6 3 → (¬ x1 = 62 → (K 0 μ2)) ∧ (x1 = 62 → (K 1 μ2)))) ∧ (x1 = 45 → (vp_in (μ.1 33 8) 32 ∧ ∀ μ5 : Mem, μ5 = wI μ 35 (μ.1 33 8 : Int32).toNatClampNeg (-1) → ∀ μ6 : Mem, μ6 = wI μ5 33 6 6 → K 1 μ6)))
def f_X4_takesTarget (x1 : Int32) (μ : Mem) (K : Int32 → Mem → Prop) : Prop :=
  (∀ μ1 : Mem, μ1 = wI μ 33 9 (x1 - 48) → ∀ μ2 : Mem, μ2 = wI μ1 33 6 4 → ((μ2.1 33 9) < 0 → (K 0 μ2)) ∧ (¬ (μ2.1 33 9) < 0 → (((μ2.1 33 4) ≤ (μ2.1 33 9) → (K 0 μ2)) ∧ (¬ (μ2.1 33 4) ≤ (μ2.1 33 9) → (K 1 μ2)))))
def f_X5_isOutput (x0 : Int32) (μ : Mem) (K : Int32 → Mem → Prop) : Prop :=
  ((x0 < 0 → (K 0 μ)) ∧ (¬ x0 < 0 → ((9 < x0 → (K 0 μ)) ∧ (¬ 9 < x0 → (K 1 μ)))))
def f_X4_takesOutput (x1 : Int32) (μ : Mem) (K : Int32 → Mem → Prop) : Prop :=
  (∀ y1 : Int32, y1 = x1 - 48 → f_X5_isOutput y1 μ (fun r2 μ3 => (¬ r2 = 0 → (f_X5_arrowOf (μ3.1 33 9) y1 μ3 (fun r5 μ6 => vp_in (μ3.1 33 8) 32 ∧ ∀ μ8 : Mem, μ8 = wI μ6 35 (μ3.1 33 8 : Int32).toNatClampNeg r5 → ∀ μ9 : Mem, μ9 = wI μ8 33 6 6 → K 1 μ9))) ∧ (r2 = 0 → (K 0 μ3))))
def f_X4_takes (x1 : Int32) (μ : Mem) (K : Int32 → Mem → Prop) : Prop :=
  (∀ y1 : Int32, y1 = μ.1 33 6 → (y1 = 0 → (f_X4_takesState x1 μ (fun r2 μ3 => isB r2 ∧ K r2 μ3))) ∧ (y1 = 1 → (f_X4_takesLetter x1 μ (fun r4 μ5 => isB r4 ∧ K r4 μ5))) ∧ (y1 = 2 → (f_X4_takesKind x1 μ (fun r6 μ7 => isB r6 ∧ K r6 μ7))) ∧ (y1 = 3 → (f_X4_takesTarget x1 μ (fun r8 μ9 => isB r8 ∧ K r8 μ9))) ∧ (y1 = 4 → (∀ μ10 : Mem, μ10 = wI μ 33 6 5 → (¬ x1 = 47 → (K 0 μ10)) ∧ (x1 = 47 → (K 1 μ10)))) ∧ (y1 = 5 → (f_X4_takesOutput x1 μ (fun r12 μ13 => isB r12 ∧ K r12 μ13))) ∧ (¬ y1 = 0 ∧ ¬ y1 = 1 ∧ ¬ y1 = 2 ∧ ¬ y1 = 3 ∧ ¬ y1 = 4 ∧ ¬ y1 = 5 → (∀ μ14 : Mem, μ14 = wI μ 33 6 0 → ∀ μ15 : Mem, μ15 = wI μ14 33 3 ((μ14.1 33 3) + 1) → (¬ x1 = 59 → (K 0 μ15)) ∧ (x1 = 59 → (K 1 μ15)))))
def f_X4_parse (x1 : Int32) (x2 : Int32) (μ : Mem) (K : Int32 → Mem → Prop) : Prop :=
  ∀ (G31 : Int32 → Mem → Prop),
  (∀ (b3 : Int32) (μ : Mem), (((μ.1 33 1) ≤ b3 → ((¬ (μ.1 33 6) = 0 → (K (μ.1 33 1) μ)) ∧ ((μ.1 33 6) = 0 → (K (-5) μ)))) ∧ (¬ (μ.1 33 1) ≤ b3 → (vp_in b3 80 ∧ (f_X4_takes (μ.1 34 (b3 : Int32).toNatClampNeg) μ (fun r10 μ11 => (¬ r10 = 0 → (∀ y13 : Int32, y13 = b3 + 1 → G31 y13 μ11)) ∧ (r10 = 0 → (K b3 μ11))))))) → G31 b3 μ) →
  (∀ μ1 : Mem, μ1 = wI μ 33 4 x1 → ∀ μ2 : Mem, μ2 = wI μ1 33 5 x2 → ∀ μ3 : Mem, μ3 = wI μ2 33 6 0 → ∀ μ4 : Mem, μ4 = wI μ3 33 3 0 → f_J7_fill_53178 35 32 (-2) μ4 (fun μ6 => G31 0 μ6))
def f_X5_begin (x1 : Int32) (x2 : Int32) (μ : Mem) (K : Int32 → Mem → Prop) : Prop :=
  ((x1 < 1 → (K (-2) μ)) ∧ (¬ x1 < 1 → ((8 < x1 → (K (-2) μ)) ∧ (¬ 8 < x1 → ((x2 < 1 → (K (-2) μ)) ∧ (¬ x2 < 1 → ((x2 ≤ 4 → (∀ y5 : Int32, y5 = (10 * (μ.1 1 0)) + (μ.1 1 1) → f_X2_startAnew 1 x1 x2 μ (fun μ7 => ∀ μ8 : Mem, μ8 = wI μ7 0 5 0 → K y5 μ8))) ∧ (¬ x2 ≤ 4 → (K (-2) μ)))))))))
def f_X5_replaceArrow (x1 : Int32) (x2 : Int32) (μ : Mem) (K : Int32 → Mem → Prop) : Prop :=
  (vp_in x1 32 ∧ (∀ y2 : Int32, y2 = μ.1 2 (x1 : Int32).toNatClampNeg → vp_in x1 32 ∧ ∀ μ4 : Mem, μ4 = wI μ 2 (x1 : Int32).toNatClampNeg x2 → (¬ y2 = (-1) → (K y2 μ4)) ∧ (y2 = (-1) → (K (-5) μ4))))
def f_X5_setArrow (x1 : Int32) (x2 : Int32) (x3 : Int32) (x4 : Int32) (μ : Mem) (K : Int32 → Mem → Prop) : Prop :=
  (f_X2_hasCell 1 x1 x2 μ (fun r1 μ2 => (r1 = 0 → (K (-1) μ2)) ∧ (¬ r1 = 0 → (f_X2_hasState 1 x3 μ2 (fun r4 μ5 => (¬ r4 = 0 → (f_X5_isOutput x4 μ5 (fun r7 μ8 => (¬ r7 = 0 → (f_X5_cellOf x1 x2 μ8 (fun r10 μ11 => f_X5_arrowOf x3 x4 μ11 (fun r12 μ13 => f_X5_replaceArrow r10 r12 μ13 (fun r14 μ15 => K r14 μ15))))) ∧ (r7 = 0 → (K (-2) μ8))))) ∧ (r4 = 0 → (K (-1) μ5)))))))
def f_X5_removeArrow (x1 : Int32) (x2 : Int32) (μ : Mem) (K : Int32 → Mem → Prop) : Prop :=
  (f_X2_hasCell 1 x1 x2 μ (fun r1 μ2 => (¬ r1 = 0 → (f_X5_cellOf x1 x2 μ2 (fun r4 μ5 => f_X5_replaceArrow r4 (-1) μ5 (fun r6 μ7 => K r6 μ7)))) ∧ (r1 = 0 → (K (-1) μ2))))
def f_X5_addFeature  (μ : Mem) (K : Int32 → Mem → Prop) : Prop :=
  (((μ.1 1 2) < 6 → (f_X2_makeFeature 1 μ (fun r2 μ3 => K r2 μ3))) ∧ (¬ (μ.1 1 2) < 6 → (K (-4) μ)))
def f_X5_change (x1 : Int32) (x2 : Int32) (x3 : Int32) (x4 : Int32) (x5 : Int32) (μ : Mem) (K : Int32 → Mem → Prop) : Prop :=
  (f_X2_hasFeature 1 x1 μ (fun r1 μ2 => (r1 = 0 → (K (-1) μ2)) ∧ (¬ r1 = 0 → (f_X2_hasCell 1 x2 x3 μ2 (fun r4 μ5 => (r4 = 0 → (K (-1) μ5)) ∧ (¬ r4 = 0 → (f_X2_hasState 1 x4 μ5 (fun r7 μ8 => (¬ r7 = 0 → (f_X5_isOutput x5 μ8 (fun r10 μ11 => (¬ r10 = 0 → (vp_in x1 6 ∧ (f_X5_cellOf x2 x3 μ11 (fun r14 μ15 => f_X5_arrowOf x4 x5 μ15 (fun r16 μ17 => vp_in r14 32 ∧ ∀ μ19 : Mem, μ19 = wI μ17 (4 + (x1 : Int32).toNatClampNeg) (r14 : Int32).toNatClampNeg r16 → f_X2_countEdits 1 x1 μ19 (fun r20 μ21 => K r20 μ21)))))) ∧ (r10 = 0 → (K (-2) μ11))))) ∧ (r7 = 0 → (K (-1) μ8))))))))))
def f_X5_changeToNone (x1 : Int32) (x2 : Int32) (x3 : Int32) (μ : Mem) (K : Int32 → Mem → Prop) : Prop :=
  (f_X2_hasFeature 1 x1 μ (fun r1 μ2 => (r1 = 0 → (K (-1) μ2)) ∧ (¬ r1 = 0 → (f_X2_hasCell 1 x2 x3 μ2 (fun r4 μ5 => (¬ r4 = 0 → (vp_in x1 6 ∧ (f_X5_cellOf x2 x3 μ5 (fun r8 μ9 => vp_in r8 32 ∧ ∀ μ11 : Mem, μ11 = wI μ9 (4 + (x1 : Int32).toNatClampNeg) (r8 : Int32).toNatClampNeg (-1) → f_X2_countEdits 1 x1 μ11 (fun r12 μ13 => K r12 μ13))))) ∧ (r4 = 0 → (K (-1) μ5)))))))
def f_X5_unchange (x1 : Int32) (x2 : Int32) (x3 : Int32) (μ : Mem) (K : Int32 → Mem → Prop) : Prop :=
  (f_X2_hasFeature 1 x1 μ (fun r1 μ2 => (r1 = 0 → (K (-1) μ2)) ∧ (¬ r1 = 0 → (f_X2_hasCell 1 x2 x3 μ2 (fun r4 μ5 => (¬ r4 = 0 → (f_X5_cellOf x2 x3 μ5 (fun r7 μ8 => vp_in x1 6 ∧ (vp_in r7 32 ∧ ((¬ (μ8.1 (4 + (x1 : Int32).toNatClampNeg) (r7 : Int32).toNatClampNeg) = (-2) → (vp_in x1 6 ∧ (vp_in r7 32 ∧ ∀ μ14 : Mem, μ14 = wI μ8 (4 + (x1 : Int32).toNatClampNeg) (r7 : Int32).toNatClampNeg (-2) → f_X2_countEdits 1 x1 μ14 (fun r15 μ16 => K r15 μ16)))) ∧ ((μ8.1 (4 + (x1 : Int32).toNatClampNeg) (r7 : Int32).toNatClampNeg) = (-2) → (K (-5) μ8))))))) ∧ (r4 = 0 → (K (-1) μ5)))))))
def f_X5_setOn (x1 : Int32) (x2 : Int32) (μ : Mem) (K : Int32 → Mem → Prop) : Prop :=
  ∀ (G29 : Int32 → Int32 → Int32 → Mem → Prop),
  (∀ (b1 : Int32) (b2 : Int32) (z0 : Int32) (μ : Mem), (f_X2_turn 1 b1 b2 μ (fun μ8 => K z0 μ8)) → G29 b1 b2 z0 μ) →
  (f_X2_hasFeature 1 x1 μ (fun r1 μ2 => (¬ r1 = 0 → (f_X2_isOn 1 x1 μ2 (fun r4 μ5 => (r4 = 0 → (G29 x1 x2 0 μ5)) ∧ (¬ r4 = 0 → (G29 x1 x2 1 μ5))))) ∧ (r1 = 0 → (K (-1) μ2))))
def f_X5_features  (μ : Mem) (K : Int32 → Mem → Prop) : Prop :=
  (K (μ.1 1 2) μ)
def f_X5_changes (x1 : Int32) (μ : Mem) (K : Int32 → Mem → Prop) : Prop :=
  (f_X2_hasFeature 1 x1 μ (fun r1 μ2 => (¬ r1 = 0 → (f_X2_countEdits 1 x1 μ2 (fun r4 μ5 => K r4 μ5))) ∧ (r1 = 0 → (K (-1) μ2))))
def f_X5_append (x1 : Int32) (μ : Mem) (K : Int32 → Mem → Prop) : Prop :=
  ((x1 < 0 → (K (-2) μ)) ∧ (¬ x1 < 0 → ((x1 ≤ 127 → (((μ.1 33 1) < 80 → (vp_in (μ.1 33 1) 80 ∧ ∀ μ5 : Mem, μ5 = wI μ 34 (μ.1 33 1 : Int32).toNatClampNeg x1 → ∀ μ6 : Mem, μ6 = wI μ5 33 1 ((μ5.1 33 1) + 1) → K (μ6.1 33 1) μ6)) ∧ (¬ (μ.1 33 1) < 80 → (K (-4) μ)))) ∧ (¬ x1 ≤ 127 → (K (-2) μ)))))
def f_X5_clearText  (μ : Mem) (K : Int32 → Mem → Prop) : Prop :=
  (∀ y1 : Int32, y1 = μ.1 33 1 → ∀ μ2 : Mem, μ2 = wI μ 33 1 0 → K y1 μ2)
def f_X5_faultPosition  (μ : Mem) (K : Int32 → Mem → Prop) : Prop :=
  (f_X4_parse (μ.1 1 0) (μ.1 1 1) μ (fun r1 μ2 => K r1 μ2))
def f_X5_read (x1 : Int32) (μ : Mem) (K : Int32 → Mem → Prop) : Prop :=
  ∀ (G18 : Int32 → Mem → Prop),
  (∀ (b1 : Int32) (μ : Mem), (f_X4_parse (μ.1 1 0) (μ.1 1 1) μ (fun r5 μ6 => (r5 = (-5) → ((¬ b1 = (-1) → (vp_in b1 6 ∧ (f_X5_copyRow 35 (4 + (b1 : Int32).toNatClampNeg) μ6 (fun μ11 => K (μ11.1 33 3) μ11)))) ∧ (b1 = (-1) → (f_X5_putOn 2 35 2 μ6 (fun μ13 => K (μ13.1 33 3) μ13))))) ∧ (¬ r5 = (-5) → (K (-3) μ6)))) → G18 b1 μ) →
  ((x1 = (-1) → (G18 x1 μ)) ∧ (¬ x1 = (-1) → (f_X2_hasFeature 1 x1 μ (fun r2 μ3 => (¬ r2 = 0 → (G18 x1 μ3)) ∧ (r2 = 0 → (K (-1) μ3))))))
def f_X5_areTwoFeatures (x1 : Int32) (x2 : Int32) (μ : Mem) (K : Int32 → Mem → Prop) : Prop :=
  (f_X2_hasFeature 1 x1 μ (fun r1 μ2 => (r1 = 0 → (K 0 μ2)) ∧ (¬ r1 = 0 → (f_X2_hasFeature 1 x2 μ2 (fun r4 μ5 => (r4 = 0 → (K 0 μ5)) ∧ (¬ r4 = 0 → ((x1 = x2 → (K 0 μ5)) ∧ (¬ x1 = x2 → (K 1 μ5)))))))))
def f_X5_findWitness (x1 : Int32) (x2 : Int32) (μ : Mem) (K : Int32 → Mem → Prop) : Prop :=
  (vp_in x1 6 ∧ (f_X5_putOn 2 (4 + (x1 : Int32).toNatClampNeg) 37 μ (fun μ3 => vp_in x2 6 ∧ (f_X5_putOn 37 (4 + (x2 : Int32).toNatClampNeg) 37 μ3 (fun μ6 => vp_in x2 6 ∧ (f_X5_putOn 2 (4 + (x2 : Int32).toNatClampNeg) 38 μ6 (fun μ9 => vp_in x1 6 ∧ (f_X5_putOn 38 (4 + (x1 : Int32).toNatClampNeg) 38 μ9 (fun μ12 => f_X0_search 37 38 (μ12.1 1 1) μ12 (fun μ14 => ((μ14.1 41 0) ≤ 0 → (K 0 μ14)) ∧ (¬ (μ14.1 41 0) ≤ 0 → (K 1 μ14))))))))))))
def f_X5_clash (x1 : Int32) (x2 : Int32) (μ : Mem) (K : Int32 → Mem → Prop) : Prop :=
  (f_X5_areTwoFeatures x1 x2 μ (fun r1 μ2 => (¬ r1 = 0 → (f_X5_findWitness x1 x2 μ2 (fun r4 μ5 => (r4 = 0 → (K 0 μ5)) ∧ (¬ r4 = 0 → (K 1 μ5))))) ∧ (r1 = 0 → (K (-1) μ2))))
def f_X5_witness (x1 : Int32) (x2 : Int32) (x3 : Int32) (μ : Mem) (K : Int32 → Mem → Prop) : Prop :=
  (f_X5_areTwoFeatures x1 x2 μ (fun r1 μ2 => (r1 = 0 → (K (-1) μ2)) ∧ (¬ r1 = 0 → ((0 ≤ x3 → (f_X5_findWitness x1 x2 μ2 (fun r5 μ6 => f_X0_letterAt x3 μ6 (fun r7 μ8 => K r7 μ8)))) ∧ (¬ 0 ≤ x3 → (K (-1) μ2))))))
def f_X5_clashes  (μ : Mem) (K : Int32 → Mem → Prop) : Prop :=
  ∀ (G4 : Int32 → Int32 → Mem → Prop) (G19 : Int32 → Int32 → Int32 → Mem → Prop) (G64 : Int32 → Int32 → Int32 → Mem → Prop),
  (∀ (b1 : Int32) (b2 : Int32) (μ : Mem), (((μ.1 1 2) ≤ b2 → (K b1 μ)) ∧ (¬ (μ.1 1 2) ≤ b2 → (∀ y2 : Int32, y2 = b2 + 1 → G19 b1 b2 y2 μ))) → G4 b1 b2 μ) →
  (∀ (b1 : Int32) (b2 : Int32) (b3 : Int32) (μ : Mem), (((μ.1 1 2) ≤ b3 → (∀ y4 : Int32, y4 = b2 + 1 → G4 b1 y4 μ)) ∧ (¬ (μ.1 1 2) ≤ b3 → (f_X2_isOn 1 b2 μ (fun r5 μ6 => (r5 = 0 → (G64 b1 b2 b3 μ6)) ∧ (¬ r5 = 0 → (f_X2_isOn 1 b3 μ6 (fun r8 μ9 => (r8 = 0 → (G64 b1 b2 b3 μ9)) ∧ (¬ r8 = 0 → (f_X5_findWitness b2 b3 μ9 (fun r11 μ12 => (r11 = 0 → (G64 b1 b2 b3 μ12)) ∧ (¬ r11 = 0 → (∀ y14 : Int32, y14 = b1 + 1 → G64 y14 b2 b3 μ12)))))))))))) → G19 b1 b2 b3 μ) →
  (∀ (b1 : Int32) (b2 : Int32) (b3 : Int32) (μ : Mem), (∀ y15 : Int32, y15 = b3 + 1 → G19 b1 b2 y15 μ) → G64 b1 b2 b3 μ) →
  (G4 0 0 μ)
def f_X5_results  (μ : Mem) (K : Int32 → Mem → Prop) : Prop :=
  (f_X1_countKinds 1 0 720 μ (fun r1 μ2 => K r1 μ2))
def f_X5_reachedStates (p1 : Nat) (μ : Mem) (K : Int32 → Mem → Prop) : Prop :=
  ∀ (G4 : Int32 → Int32 → Mem → Prop) (G18 : Int32 → Int32 → Int32 → Mem → Prop) (G56 : Int32 → Int32 → Int32 → Mem → Prop),
  (∀ (b2 : Int32) (b3 : Int32) (μ : Mem), (((μ.1 1 0) ≤ b3 → (K b2 μ)) ∧ (¬ (μ.1 1 0) ≤ b3 → (G18 b2 b3 0 μ))) → G4 b2 b3 μ) →
  (∀ (b2 : Int32) (b3 : Int32) (b4 : Int32) (μ : Mem), ((32 ≤ b4 → (∀ y3 : Int32, y3 = b3 + 1 → G4 b2 y3 μ)) ∧ (¬ 32 ≤ b4 → (vp_in b4 32 ∧ (((μ.1 p1 (b4 : Int32).toNatClampNeg) = (-1) → (G56 b2 b3 b4 μ)) ∧ (¬ (μ.1 p1 (b4 : Int32).toNatClampNeg) = (-1) → (f_X5_hasBit b2 (b4 / 4) μ (fun r6 μ7 => (r6 = 0 → (G56 b2 b3 b4 μ7)) ∧ (¬ r6 = 0 → (vp_in b4 32 ∧ (f_X5_targetOf (μ7.1 p1 (b4 : Int32).toNatClampNeg) μ7 (fun r10 μ11 => ∀ y12 : Int32, y12 = b2 ||| (1 <<< (r10 &&& 31)) → G56 y12 b3 b4 μ11))))))))))) → G18 b2 b3 b4 μ) →
  (∀ (b2 : Int32) (b3 : Int32) (b4 : Int32) (μ : Mem), (∀ y13 : Int32, y13 = b4 + 1 → G18 b2 b3 y13 μ) → G56 b2 b3 b4 μ) →
  (G4 1 1 μ)
def f_X5_reach (x1 : Int32) (μ : Mem) (K : Int32 → Mem → Prop) : Prop :=
  ∀ (G65 : Int32 → Int32 → Int32 → Mem → Prop) (G95 : Int32 → Int32 → Int32 → Mem → Prop),
  (∀ (b3 : Int32) (b4 : Int32) (b5 : Int32) (μ : Mem), ((32 ≤ b5 → (K b4 μ)) ∧ (¬ 32 ≤ b5 → (vp_in b5 32 ∧ (((μ.1 (4 + (x1 : Int32).toNatClampNeg) (b5 : Int32).toNatClampNeg) = (-2) → (G95 b3 b4 b5 μ)) ∧ (¬ (μ.1 (4 + (x1 : Int32).toNatClampNeg) (b5 : Int32).toNatClampNeg) = (-2) → (f_X5_hasBit b3 (b5 / 4) μ (fun r15 μ16 => (r15 = 0 → (G95 b3 b4 b5 μ16)) ∧ (¬ r15 = 0 → (∀ y18 : Int32, y18 = b4 + 1 → G95 b3 y18 b5 μ16))))))))) → G65 b3 b4 b5 μ) →
  (∀ (b3 : Int32) (b4 : Int32) (b5 : Int32) (μ : Mem), (∀ y19 : Int32, y19 = b5 + 1 → G65 b3 b4 y19 μ) → G95 b3 b4 b5 μ) →
  (f_X2_hasFeature 1 x1 μ (fun r1 μ2 => (¬ r1 = 0 → (vp_in x1 6 ∧ (f_X5_putOn 2 (4 + (x1 : Int32).toNatClampNeg) 37 μ2 (fun μ6 => f_X5_reachedStates 2 μ6 (fun r7 μ8 => f_X5_reachedStates 37 μ8 (fun r9 μ10 => ∀ y11 : Int32, y11 = r7 ||| r9 → G65 y11 0 0 μ10)))))) ∧ (r1 = 0 → (K (-1) μ2))))
def f_X5_setBefore (x1 : Int32) (x2 : Int32) (μ : Mem) (K : Int32 → Mem → Prop) : Prop :=
  (f_X5_areTwoFeatures x1 x2 μ (fun r1 μ2 => (¬ r1 = 0 → (f_X2_stands 1 x2 x1 μ2 (fun r4 μ5 => (r4 = 0 → (f_X2_prefer 1 x1 x2 μ5 (fun μ8 => f_X2_countPriorities 1 μ8 (fun r9 μ10 => K r9 μ10)))) ∧ (¬ r4 = 0 → (K (-3) μ5))))) ∧ (r1 = 0 → (K (-1) μ2))))
def f_X5_clearPriorities  (μ : Mem) (K : Int32 → Mem → Prop) : Prop :=
  (f_X2_countPriorities 1 μ (fun r1 μ2 => f_J7_fill_53178 10 6 0 μ2 (fun μ4 => K r1 μ4)))
def f_X5_isBefore (x1 : Int32) (x2 : Int32) (μ : Mem) (K : Int32 → Mem → Prop) : Prop :=
  (f_X2_hasFeature 1 x1 μ (fun r1 μ2 => (r1 = 0 → (K (-1) μ2)) ∧ (¬ r1 = 0 → (f_X2_hasFeature 1 x2 μ2 (fun r4 μ5 => (¬ r4 = 0 → (f_X2_stands 1 x1 x2 μ5 (fun r7 μ8 => (r7 = 0 → (K 0 μ8)) ∧ (¬ r7 = 0 → (K 1 μ8))))) ∧ (r4 = 0 → (K (-1) μ5)))))))
def f_X5_countOrdersOf (x1 : Int32) (μ : Mem) (K : Int32 → Mem → Prop) : Prop :=
  ∀ (G4 : Int32 → Int32 → Int32 → Mem → Prop) (G65 : Int32 → Int32 → Int32 → Mem → Prop),
  (∀ (b1 : Int32) (b2 : Int32) (b3 : Int32) (μ : Mem), (((μ.1 1 2) ≤ b3 → (K b2 μ)) ∧ (¬ (μ.1 1 2) ≤ b3 → (∀ y2 : Int32, y2 = b1 &&& ((1 <<< (b3 &&& 31)) ^^^ (-1)) → (y2 = b1 → (G65 b1 b2 b3 μ)) ∧ (¬ y2 = b1 → (vp_in b3 6 ∧ ((¬ (((μ.1 10 (b3 : Int32).toNatClampNeg) &&& (μ.1 1 3)) &&& (y2 ^^^ (-1))) = 0 → (G65 b1 b2 b3 μ)) ∧ ((((μ.1 10 (b3 : Int32).toNatClampNeg) &&& (μ.1 1 3)) &&& (y2 ^^^ (-1))) = 0 → (vp_in y2 64 ∧ (∀ y7 : Int32, y7 = b2 + (μ.1 40 (y2 : Int32).toNatClampNeg) → G65 b1 y7 b3 μ))))))))) → G4 b1 b2 b3 μ) →
  (∀ (b1 : Int32) (b2 : Int32) (b3 : Int32) (μ : Mem), (∀ y8 : Int32, y8 = b3 + 1 → G4 b1 b2 y8 μ) → G65 b1 b2 b3 μ) →
  (G4 x1 0 0 μ)
def f_X5_orders  (μ : Mem) (K : Int32 → Mem → Prop) : Prop :=
  ∀ (G9 : Int32 → Mem → Prop) (G48 : Int32 → Int32 → Int32 → Mem → Prop),
  (∀ (b1 : Int32) (μ : Mem), (((μ.1 1 3) < b1 → (vp_in (μ.1 1 3) 64 ∧ (K (μ.1 40 (μ.1 1 3 : Int32).toNatClampNeg) μ))) ∧ (¬ (μ.1 1 3) < b1 → ((¬ (b1 &&& ((μ.1 1 3) ^^^ (-1))) = 0 → (G48 b1 0 b1 μ)) ∧ ((b1 &&& ((μ.1 1 3) ^^^ (-1))) = 0 → (f_X5_countOrdersOf b1 μ (fun r6 μ7 => G48 b1 r6 b1 μ7)))))) → G9 b1 μ) →
  (∀ (b1 : Int32) (z0 : Int32) (z1 : Int32) (μ : Mem), (vp_in z1 64 ∧ ∀ μ9 : Mem, μ9 = wI μ 40 (z1 : Int32).toNatClampNeg z0 → ∀ y10 : Int32, y10 = b1 + 1 → G9 y10 μ9) → G48 b1 z0 z1 μ) →
  (vp_in 0 64 ∧ ∀ μ2 : Mem, μ2 = wI μ 40 (0 : Int32).toNatClampNeg 1 → G9 1 μ2)
def f_X5_lowestReady (x1 : Int32) (μ : Mem) (K : Int32 → Mem → Prop) : Prop :=
  ∀ (G2 : Int32 → Int32 → Mem → Prop) (G32 : Int32 → Int32 → Mem → Prop),
  (∀ (b1 : Int32) (b2 : Int32) (μ : Mem), ((6 ≤ b2 → (K 0 μ)) ∧ (¬ 6 ≤ b2 → (f_X5_hasBit b1 b2 μ (fun r2 μ3 => (r2 = 0 → (G32 b1 b2 μ3)) ∧ (¬ r2 = 0 → (vp_in b2 6 ∧ ((¬ ((μ3.1 10 (b2 : Int32).toNatClampNeg) &&& b1) = 0 → (G32 b1 b2 μ3)) ∧ (((μ3.1 10 (b2 : Int32).toNatClampNeg) &&& b1) = 0 → (K b2 μ3))))))))) → G2 b1 b2 μ) →
  (∀ (b1 : Int32) (b2 : Int32) (μ : Mem), (∀ y7 : Int32, y7 = b2 + 1 → G2 b1 y7 μ) → G32 b1 b2 μ) →
  (G2 x1 0 μ)
def f_X5_findResolvedOrder  (μ : Mem) (K : Int32 → Mem → Prop) : Prop :=
  ∀ (G12 : Int32 → Int32 → Int32 → Mem → Prop),
  (∀ (b1 : Int32) (b2 : Int32) (b3 : Int32) (μ : Mem), ((6 ≤ b3 → (K b2 μ)) ∧ (¬ 6 ≤ b3 → ((b1 = 0 → (K b2 μ)) ∧ (¬ b1 = 0 → (f_X5_lowestReady b1 μ (fun r4 μ5 => vp_in b3 6 ∧ ∀ μ7 : Mem, μ7 = wI μ5 39 (b3 : Int32).toNatClampNeg r4 → ∀ y8 : Int32, y8 = b1 &&& ((1 <<< (r4 &&& 31)) ^^^ (-1)) → ∀ y9 : Int32, y9 = b2 + 1 → ∀ y10 : Int32, y10 = b3 + 1 → G12 y8 y9 y10 μ7)))))) → G12 b1 b2 b3 μ) →
  (∀ y1 : Int32, y1 = μ.1 1 3 → G12 y1 0 0 μ)
def f_X5_resolved (x1 : Int32) (μ : Mem) (K : Int32 → Mem → Prop) : Prop :=
  ((0 ≤ x1 → (f_X5_findResolvedOrder  μ (fun r2 μ3 => (r2 ≤ x1 → (K (-5) μ3)) ∧ (¬ r2 ≤ x1 → (vp_in x1 6 ∧ (K (μ3.1 39 (x1 : Int32).toNatClampNeg) μ3)))))) ∧ (¬ 0 ≤ x1 → (K (-1) μ)))
def f_X5_isOpenPair (x1 : Int32) (x2 : Int32) (μ : Mem) (K : Int32 → Mem → Prop) : Prop :=
  (f_X2_isOn 1 x1 μ (fun r1 μ2 => (r1 = 0 → (K 0 μ2)) ∧ (¬ r1 = 0 → (f_X2_isOn 1 x2 μ2 (fun r4 μ5 => (r4 = 0 → (K 0 μ5)) ∧ (¬ r4 = 0 → (f_X2_stands 1 x1 x2 μ5 (fun r7 μ8 => (¬ r7 = 0 → (K 0 μ8)) ∧ (r7 = 0 → (f_X2_stands 1 x2 x1 μ8 (fun r10 μ11 => (¬ r10 = 0 → (K 0 μ11)) ∧ (r10 = 0 → (f_X5_findWitness x1 x2 μ11 (fun r13 μ14 => (r13 = 0 → (K 0 μ14)) ∧ (¬ r13 = 0 → (K 1 μ14))))))))))))))))
def f_X5_open  (μ : Mem) (K : Int32 → Mem → Prop) : Prop :=
  ∀ (G4 : Int32 → Int32 → Mem → Prop) (G19 : Int32 → Int32 → Int32 → Mem → Prop) (G42 : Int32 → Int32 → Int32 → Mem → Prop),
  (∀ (b1 : Int32) (b2 : Int32) (μ : Mem), (((μ.1 1 2) ≤ b2 → (K b1 μ)) ∧ (¬ (μ.1 1 2) ≤ b2 → (∀ y2 : Int32, y2 = b2 + 1 → G19 b1 b2 y2 μ))) → G4 b1 b2 μ) →
  (∀ (b1 : Int32) (b2 : Int32) (b3 : Int32) (μ : Mem), (((μ.1 1 2) ≤ b3 → (∀ y4 : Int32, y4 = b2 + 1 → G4 b1 y4 μ)) ∧ (¬ (μ.1 1 2) ≤ b3 → (f_X5_isOpenPair b2 b3 μ (fun r5 μ6 => (r5 = 0 → (G42 b1 b2 b3 μ6)) ∧ (¬ r5 = 0 → (∀ y8 : Int32, y8 = b1 + 1 → G42 y8 b2 b3 μ6)))))) → G19 b1 b2 b3 μ) →
  (∀ (b1 : Int32) (b2 : Int32) (b3 : Int32) (μ : Mem), (∀ y9 : Int32, y9 = b3 + 1 → G19 b1 b2 y9 μ) → G42 b1 b2 b3 μ) →
  (G4 0 0 μ)
def f_X5_isResolved  (μ : Mem) (K : Int32 → Mem → Prop) : Prop :=
  (f_X1_countKinds 1 1 2 μ (fun r1 μ2 => (2 ≤ r1 → (K 0 μ2)) ∧ (¬ 2 ≤ r1 → (K 1 μ2))))
def f_X5_resolve  (μ : Mem) (K : Int32 → Mem → Prop) : Prop :=
  ∀ (G4 : Int32 → Int32 → Mem → Prop) (G19 : Int32 → Int32 → Int32 → Mem → Prop) (G51 : Int32 → Int32 → Int32 → Mem → Prop),
  (∀ (b1 : Int32) (b2 : Int32) (μ : Mem), (((μ.1 1 2) ≤ b2 → (K b1 μ)) ∧ (¬ (μ.1 1 2) ≤ b2 → (∀ y2 : Int32, y2 = b2 + 1 → G19 b1 b2 y2 μ))) → G4 b1 b2 μ) →
  (∀ (b1 : Int32) (b2 : Int32) (b3 : Int32) (μ : Mem), (((μ.1 1 2) ≤ b3 → (∀ y4 : Int32, y4 = b2 + 1 → G4 b1 y4 μ)) ∧ (¬ (μ.1 1 2) ≤ b3 → (f_X5_isOpenPair b2 b3 μ (fun r5 μ6 => (r5 = 0 → (G51 b1 b2 b3 μ6)) ∧ (¬ r5 = 0 → (f_X2_prefer 1 b2 b3 μ6 (fun μ9 => ∀ y10 : Int32, y10 = b1 + 1 → G51 y10 b2 b3 μ9))))))) → G19 b1 b2 b3 μ) →
  (∀ (b1 : Int32) (b2 : Int32) (b3 : Int32) (μ : Mem), (∀ y11 : Int32, y11 = b3 + 1 → G19 b1 b2 y11 μ) → G51 b1 b2 b3 μ) →
  (G4 0 0 μ)
def f_X5_buildResolvedMachine (p1 : Nat) (μ : Mem) (K : Mem → Prop) : Prop :=
  ∀ (G18 : Int32 → Int32 → Mem → Prop),
  (∀ (b2 : Int32) (b3 : Int32) (μ : Mem), ((b2 ≤ b3 → (K μ)) ∧ (¬ b2 ≤ b3 → (vp_in b3 6 ∧ (vp_in (μ.1 39 (b3 : Int32).toNatClampNeg) 6 ∧ (f_X5_putOn p1 (4 + (μ.1 39 (b3 : Int32).toNatClampNeg : Int32).toNatClampNeg) p1 μ (fun μ9 => ∀ y10 : Int32, y10 = b3 + 1 → G18 b2 y10 μ9)))))) → G18 b2 b3 μ) →
  (f_X5_copyRow 2 p1 μ (fun μ2 => f_X5_findResolvedOrder  μ2 (fun r3 μ4 => G18 r3 0 μ4)))
def f_X5_add (x1 : Int32) (μ : Mem) (K : Int32 → Mem → Prop) : Prop :=
  (f_X2_hasLetter 1 x1 μ (fun r1 μ2 => (¬ r1 = 0 → (((μ2.1 0 5) < 20 → (vp_in (μ2.1 0 5) 20 ∧ ∀ μ6 : Mem, μ6 = wI μ2 36 (μ2.1 0 5 : Int32).toNatClampNeg x1 → ∀ μ7 : Mem, μ7 = wI μ6 0 5 ((μ6.1 0 5) + 1) → K (μ7.1 0 5) μ7)) ∧ (¬ (μ2.1 0 5) < 20 → (K (-4) μ2)))) ∧ (r1 = 0 → (K (-1) μ2))))
def f_X5_clearWord  (μ : Mem) (K : Int32 → Mem → Prop) : Prop :=
  (∀ y1 : Int32, y1 = μ.1 0 5 → ∀ μ2 : Mem, μ2 = wI μ 0 5 0 → K y1 μ2)
def f_X5_buildMachine (x1 : Int32) (p2 : Nat) (μ : Mem) (K : Mem → Prop) : Prop :=
  ((¬ x1 = (-2) → ((¬ x1 = (-1) → (vp_in x1 6 ∧ (f_X5_putOn 2 (4 + (x1 : Int32).toNatClampNeg) p2 μ (fun μ5 => K μ5)))) ∧ (x1 = (-1) → (f_X5_copyRow 2 p2 μ (fun μ7 => K μ7))))) ∧ (x1 = (-2) → (f_X5_buildResolvedMachine p2 μ (fun μ9 => K μ9))))
def f_X5_answerOf (p1 : Nat) (x2 : Int32) (μ : Mem) (K : Int32 → Mem → Prop) : Prop :=
  ∀ (G9 : Int32 → Int32 → Int32 → Int32 → Mem → Prop),
  (∀ (b2 : Int32) (b3 : Int32) (b4 : Int32) (b5 : Int32) (μ : Mem), ((b2 < b5 → (K b4 μ)) ∧ (¬ b2 < b5 → (((μ.1 0 5) ≤ b5 → (K b4 μ)) ∧ (¬ (μ.1 0 5) ≤ b5 → (vp_in b5 20 ∧ (f_X5_cellOf b3 (μ.1 36 (b5 : Int32).toNatClampNeg) μ (fun r4 μ5 => vp_in r4 32 ∧ (∀ y7 : Int32, y7 = μ5.1 p1 (r4 : Int32).toNatClampNeg → (¬ y7 = (-1) → (f_X5_targetOf y7 μ5 (fun r9 μ10 => f_X5_outputOf y7 μ10 (fun r11 μ12 => ∀ y13 : Int32, y13 = b5 + 1 → G9 b2 r9 r11 y13 μ12)))) ∧ (y7 = (-1) → (K 10 μ5)))))))))) → G9 b2 b3 b4 b5 μ) →
  (G9 x2 0 10 0 μ)
def f_X5_answer (x1 : Int32) (x2 : Int32) (μ : Mem) (K : Int32 → Mem → Prop) : Prop :=
  ∀ (G22 : Int32 → Int32 → Mem → Prop) (G27 : Int32 → Int32 → Int32 → Mem → Prop),
  (∀ (b1 : Int32) (b2 : Int32) (μ : Mem), (G27 b1 b2 1 μ) → G22 b1 b2 μ) →
  (∀ (b1 : Int32) (b2 : Int32) (z0 : Int32) (μ : Mem), ((z0 = 0 → (K (-1) μ)) ∧ (¬ z0 = 0 → ((0 ≤ b2 → ((b2 < (μ.1 0 5) → (f_X5_buildMachine b1 37 μ (fun μ10 => f_X5_answerOf 37 b2 μ10 (fun r11 μ12 => K r11 μ12)))) ∧ (¬ b2 < (μ.1 0 5) → (K (-5) μ)))) ∧ (¬ 0 ≤ b2 → (K (-1) μ))))) → G27 b1 b2 z0 μ) →
  ((x1 = (-1) → (G22 x1 x2 μ)) ∧ (¬ x1 = (-1) → ((x1 = (-2) → (G22 x1 x2 μ)) ∧ (¬ x1 = (-2) → (f_X2_hasFeature 1 x1 μ (fun r3 μ4 => (r3 = 0 → (G27 x1 x2 0 μ4)) ∧ (¬ r3 = 0 → (G22 x1 x2 μ4))))))))
def f_X5_findEffect  (μ : Mem) (K : Mem → Prop) : Prop :=
  (f_X5_buildResolvedMachine 37 μ (fun μ2 => f_X0_search 37 2 (μ2.1 1 1) μ2 (fun μ4 => K μ4)))
def f_X5_effect (x1 : Int32) (μ : Mem) (K : Int32 → Mem → Prop) : Prop :=
  ((0 ≤ x1 → (f_X5_findEffect  μ (fun μ3 => f_X0_letterAt x1 μ3 (fun r4 μ5 => K r4 μ5)))) ∧ (¬ 0 ≤ x1 → (K (-1) μ)))
def f_X5_isSlot (x0 : Int32) (μ : Mem) (K : Int32 → Mem → Prop) : Prop :=
  ((x0 < 0 → (K 0 μ)) ∧ (¬ x0 < 0 → ((2 ≤ x0 → (K 0 μ)) ∧ (¬ 2 ≤ x0 → (K 1 μ)))))
def f_X5_save (x1 : Int32) (μ : Mem) (K : Int32 → Mem → Prop) : Prop :=
  (f_X5_isSlot x1 μ (fun r1 μ2 => (¬ r1 = 0 → (vp_in x1 2 ∧ (f_X2_copyFrom (12 + 10 * (x1 : Int32).toNatClampNeg) 1 μ2 (fun μ6 => vp_in x1 2 ∧ ∀ μ8 : Mem, μ8 = wI μ6 32 (x1 : Int32).toNatClampNeg (vp_nar .boolean 1) → K (μ8.1 1 2) μ8)))) ∧ (r1 = 0 → (K (-1) μ2))))
def f_X5_restore (x1 : Int32) (μ : Mem) (K : Int32 → Mem → Prop) : Prop :=
  (f_X5_isSlot x1 μ (fun r1 μ2 => (¬ r1 = 0 → (vp_in x1 2 ∧ ((¬ (μ2.1 32 (x1 : Int32).toNatClampNeg) = 0 → (vp_in x1 2 ∧ (f_X2_copyFrom 1 (12 + 10 * (x1 : Int32).toNatClampNeg) μ2 (fun μ8 => ∀ μ9 : Mem, μ9 = wI μ8 0 5 0 → K (μ9.1 1 2) μ9)))) ∧ ((μ2.1 32 (x1 : Int32).toNatClampNeg) = 0 → (K (-3) μ2))))) ∧ (r1 = 0 → (K (-1) μ2))))
def f_X5_mix (x0 : Int64) (x2 : Int32) (μ : Mem) (K : Int64 → Mem → Prop) : Prop :=
  (K ((31 * x0) + ((x2 : Int32).toInt64)) μ)
def f_X5_mixDifference (x1 : Int64) (μ : Mem) (K : Int64 → Mem → Prop) : Prop :=
  ∀ (G5 : Int64 → Int32 → Mem → Prop),
  (∀ (b3 : Int64) (b5 : Int32) (μ : Mem), (((μ.1 41 0) ≤ b5 → (K b3 μ)) ∧ (¬ (μ.1 41 0) ≤ b5 → (f_X0_letterAt b5 μ (fun r2 μ3 => f_X5_mix b3 r2 μ3 (fun r4 μ5 => ∀ y6 : Int32, y6 = b5 + 1 → G5 r4 y6 μ5))))) → G5 b3 b5 μ) →
  (G5 x1 0 μ)
def f_X5_mixResolvedOrder (x1 : Int64) (μ : Mem) (K : Int64 → Mem → Prop) : Prop :=
  ∀ (G11 : Int64 → Int32 → Int32 → Mem → Prop),
  (∀ (b3 : Int64) (b5 : Int32) (b6 : Int32) (μ : Mem), ((b5 ≤ b6 → (K b3 μ)) ∧ (¬ b5 ≤ b6 → (vp_in b6 6 ∧ (f_X5_mix b3 (μ.1 39 (b6 : Int32).toNatClampNeg) μ (fun r5 μ6 => ∀ y7 : Int32, y7 = b6 + 1 → G11 r5 b5 y7 μ6))))) → G11 b3 b5 b6 μ) →
  (f_X5_findResolvedOrder  μ (fun r1 μ2 => G11 x1 r1 0 μ2))
def f_X5_mixAnswers (x1 : Int64) (μ : Mem) (K : Int64 → Mem → Prop) : Prop :=
  ∀ (G13 : Int64 → Int32 → Mem → Prop),
  (∀ (b3 : Int64) (b5 : Int32) (μ : Mem), (((μ.1 0 5) ≤ b5 → (K b3 μ)) ∧ (¬ (μ.1 0 5) ≤ b5 → (f_X5_answerOf 37 b5 μ (fun r4 μ5 => f_X5_mix b3 r4 μ5 (fun r6 μ7 => ∀ y8 : Int32, y8 = b5 + 1 → G13 r6 y8 μ7))))) → G13 b3 b5 μ) →
  (f_X5_buildResolvedMachine 37 μ (fun μ2 => G13 x1 0 μ2))
def f_X5_checksum  (μ : Mem) (K : Int64 → Mem → Prop) : Prop :=
  ∀ (G13 : Int64 → Int32 → Mem → Prop) (G49 : Int64 → Int32 → Int32 → Mem → Prop),
  (∀ (b1 : Int64) (b3 : Int32) (μ : Mem), (((μ.1 1 2) ≤ b3 → (f_X5_clashes  μ (fun r6 μ7 => f_X5_mix b1 r6 μ7 (fun r8 μ9 => f_X5_orders  μ9 (fun r10 μ11 => f_X5_mix r8 r10 μ11 (fun r12 μ13 => f_X5_open  μ13 (fun r14 μ15 => f_X5_mix r12 r14 μ15 (fun r16 μ17 => f_X5_isResolved  μ17 (fun r18 μ19 => f_X5_mix r16 r18 μ19 (fun r20 μ21 => f_X5_mixResolvedOrder r20 μ21 (fun r22 μ23 => f_X5_findEffect  μ23 (fun μ25 => f_X5_mixDifference r22 μ25 (fun r26 μ27 => f_X5_mixAnswers r26 μ27 (fun r28 μ29 => K r28 μ29)))))))))))))) ∧ (¬ (μ.1 1 2) ≤ b3 → (f_X5_changes b3 μ (fun r30 μ31 => f_X5_mix b1 r30 μ31 (fun r32 μ33 => f_X5_reach b3 μ33 (fun r34 μ35 => f_X5_mix r32 r34 μ35 (fun r36 μ37 => ∀ y38 : Int32, y38 = b3 + 1 → G49 r36 b3 y38 μ37))))))) → G13 b1 b3 μ) →
  (∀ (b1 : Int64) (b3 : Int32) (b4 : Int32) (μ : Mem), (((μ.1 1 2) ≤ b4 → (∀ y40 : Int32, y40 = b3 + 1 → G13 b1 y40 μ)) ∧ (¬ (μ.1 1 2) ≤ b4 → (f_X5_clash b3 b4 μ (fun r41 μ42 => f_X5_mix b1 r41 μ42 (fun r43 μ44 => f_X5_mixDifference r43 μ44 (fun r45 μ46 => ∀ y47 : Int32, y47 = b4 + 1 → G49 r45 b3 y47 μ46)))))) → G49 b1 b3 b4 μ) →
  (f_X5_features  μ (fun r1 μ2 => f_X5_mix 83 r1 μ2 (fun r3 μ4 => G13 r3 0 μ4)))
def f_X6_in (x0 : Int32) (x1 : Int32) (x2 : Int32) (μ : Mem) (K : Int32 → Mem → Prop) : Prop :=
  ((x0 < x1 → (K 0 μ)) ∧ (¬ x0 < x1 → ((x2 < x0 → (K 0 μ)) ∧ (¬ x2 < x0 → (K 1 μ)))))
def f_X6_anew (x1 : Int32) (x2 : Int32) (μ : Mem) (K : Mem → Prop) : Prop :=
  ∀ (G2 : Int32 → Int32 → Int32 → Mem → Prop) (G38 : Int32 → Mem → Prop),
  (∀ (b1 : Int32) (b2 : Int32) (b3 : Int32) (μ : Mem), ((239 ≤ b3 → (vp_in 0 239 ∧ ∀ μ3 : Mem, μ3 = wI μ 1 (0 : Int32).toNatClampNeg b1 → vp_in 1 239 ∧ ∀ μ5 : Mem, μ5 = wI μ3 1 (1 : Int32).toNatClampNeg b2 → G38 0 μ5)) ∧ (¬ 239 ≤ b3 → (vp_in b3 239 ∧ ∀ μ7 : Mem, μ7 = wI μ 1 (b3 : Int32).toNatClampNeg 0 → ∀ y8 : Int32, y8 = b3 + 1 → G2 b1 b2 y8 μ7))) → G2 b1 b2 b3 μ) →
  (∀ (b3 : Int32) (μ : Mem), ((32 ≤ b3 → (K μ)) ∧ (¬ 32 ≤ b3 → (vp_in (2 + b3) 239 ∧ ∀ μ11 : Mem, μ11 = wI μ 1 (2 + b3 : Int32).toNatClampNeg (-1) → ∀ y12 : Int32, y12 = b3 + 1 → G38 y12 μ11))) → G38 b3 μ) →
  (G2 x1 x2 0 μ)
def f_X6_isState (x1 : Int32) (μ : Mem) (K : Int32 → Mem → Prop) : Prop :=
  (vp_in 0 239 ∧ (f_X6_in x1 0 ((μ.1 1 (0 : Int32).toNatClampNeg) - 1) μ (fun r2 μ3 => isB r2 ∧ K r2 μ3)))
def f_X6_isLetter (x1 : Int32) (μ : Mem) (K : Int32 → Mem → Prop) : Prop :=
  (vp_in 1 239 ∧ (f_X6_in x1 0 ((μ.1 1 (1 : Int32).toNatClampNeg) - 1) μ (fun r2 μ3 => isB r2 ∧ K r2 μ3)))
def f_X6_isFeature (x1 : Int32) (μ : Mem) (K : Int32 → Mem → Prop) : Prop :=
  (vp_in 34 239 ∧ (f_X6_in x1 0 ((μ.1 1 (34 : Int32).toNatClampNeg) - 1) μ (fun r2 μ3 => isB r2 ∧ K r2 μ3)))
def f_X6_at (x0 : Int32) (x1 : Int32) (μ : Mem) (K : Int32 → Mem → Prop) : Prop :=
  (K ((35 + (34 * x0)) + x1) μ)
def f_X6_begin (x1 : Int32) (x2 : Int32) (μ : Mem) (K : Int32 → Mem → Prop) : Prop :=
  (f_X6_in x1 1 8 μ (fun r1 μ2 => (r1 = 0 → (K (-2) μ2)) ∧ (¬ r1 = 0 → (f_X6_in x2 1 4 μ2 (fun r4 μ5 => (¬ r4 = 0 → (vp_in 0 239 ∧ (vp_in 1 239 ∧ (∀ y9 : Int32, y9 = (10 * (μ5.1 1 (0 : Int32).toNatClampNeg)) + (μ5.1 1 (1 : Int32).toNatClampNeg) → f_X6_anew x1 x2 μ5 (fun μ11 => ∀ μ12 : Mem, μ12 = wI μ11 0 4 0 → K y9 μ12))))) ∧ (r4 = 0 → (K (-2) μ5)))))))
def f_X6_puts (x1 : Int32) (x2 : Int32) (μ : Mem) (K : Int32 → Mem → Prop) : Prop :=
  (vp_in x1 239 ∧ (∀ y2 : Int32, y2 = μ.1 1 (x1 : Int32).toNatClampNeg → vp_in x1 239 ∧ ∀ μ4 : Mem, μ4 = wI μ 1 (x1 : Int32).toNatClampNeg x2 → (0 ≤ y2 → (K y2 μ4)) ∧ (¬ 0 ≤ y2 → (K (-5) μ4))))
def f_X6_setArrow (x1 : Int32) (x2 : Int32) (x3 : Int32) (x4 : Int32) (μ : Mem) (K : Int32 → Mem → Prop) : Prop :=
  (f_X6_isState x1 μ (fun r1 μ2 => (r1 = 0 → (K (-1) μ2)) ∧ (¬ r1 = 0 → (f_X6_isLetter x2 μ2 (fun r4 μ5 => (r4 = 0 → (K (-1) μ5)) ∧ (¬ r4 = 0 → (f_X6_isState x3 μ5 (fun r7 μ8 => (¬ r7 = 0 → (f_X6_in x4 0 9 μ8 (fun r10 μ11 => (r10 = 0 → (K (-2) μ11)) ∧ (¬ r10 = 0 → (f_X6_puts ((2 + (4 * x1)) + x2) ((10 * x3) + x4) μ11 (fun r13 μ14 => K r13 μ14)))))) ∧ (r7 = 0 → (K (-1) μ8))))))))))
def f_X6_removeArrow (x1 : Int32) (x2 : Int32) (μ : Mem) (K : Int32 → Mem → Prop) : Prop :=
  (f_X6_isState x1 μ (fun r1 μ2 => (r1 = 0 → (K (-1) μ2)) ∧ (¬ r1 = 0 → (f_X6_isLetter x2 μ2 (fun r4 μ5 => (¬ r4 = 0 → (f_X6_puts ((2 + (4 * x1)) + x2) (-1) μ5 (fun r7 μ8 => K r7 μ8))) ∧ (r4 = 0 → (K (-1) μ5)))))))
def f_X6_clears (x1 : Int32) (μ : Mem) (K : Mem → Prop) : Prop :=
  ∀ (G2 : Int32 → Int32 → Mem → Prop),
  (∀ (b1 : Int32) (b2 : Int32) (μ : Mem), ((32 ≤ b2 → (K μ)) ∧ (¬ 32 ≤ b2 → (f_X6_at b1 (1 + b2) μ (fun r2 μ3 => vp_in r2 239 ∧ ∀ μ5 : Mem, μ5 = wI μ3 1 (r2 : Int32).toNatClampNeg (-1) → ∀ y6 : Int32, y6 = b2 + 1 → G2 b1 y6 μ5)))) → G2 b1 b2 μ) →
  (G2 x1 0 μ)
def f_X6_addFeature  (μ : Mem) (K : Int32 → Mem → Prop) : Prop :=
  (vp_in 34 239 ∧ ((¬ (μ.1 1 (34 : Int32).toNatClampNeg) = 6 → (vp_in 34 239 ∧ (∀ y4 : Int32, y4 = μ.1 1 (34 : Int32).toNatClampNeg → f_X6_at y4 0 μ (fun r5 μ6 => vp_in r5 239 ∧ ∀ μ8 : Mem, μ8 = wI μ6 1 (r5 : Int32).toNatClampNeg 1 → f_X6_at y4 33 μ8 (fun r9 μ10 => vp_in r9 239 ∧ ∀ μ12 : Mem, μ12 = wI μ10 1 (r9 : Int32).toNatClampNeg 0 → f_X6_clears y4 μ12 (fun μ14 => vp_in 34 239 ∧ (vp_in 34 239 ∧ ∀ μ17 : Mem, μ17 = wI μ14 1 (34 : Int32).toNatClampNeg ((μ14.1 1 (34 : Int32).toNatClampNeg) + 1) → K y4 μ17))))))) ∧ ((μ.1 1 (34 : Int32).toNatClampNeg) = 6 → (K (-4) μ))))
def f_X6_count (x1 : Int32) (μ : Mem) (K : Int32 → Mem → Prop) : Prop :=
  ∀ (G4 : Int32 → Int32 → Int32 → Mem → Prop) (G31 : Int32 → Int32 → Int32 → Int32 → Mem → Prop),
  (∀ (b1 : Int32) (b2 : Int32) (b3 : Int32) (μ : Mem), ((32 ≤ b3 → (K b2 μ)) ∧ (¬ 32 ≤ b3 → (f_X6_at b1 (1 + b3) μ (fun r2 μ3 => vp_in r2 239 ∧ ((0 ≤ (μ3.1 1 (r2 : Int32).toNatClampNeg) → (G31 b1 b3 1 b2 μ3)) ∧ (¬ 0 ≤ (μ3.1 1 (r2 : Int32).toNatClampNeg) → (G31 b1 b3 0 b2 μ3))))))) → G4 b1 b2 b3 μ) →
  (∀ (b1 : Int32) (b3 : Int32) (z0 : Int32) (z1 : Int32) (μ : Mem), (∀ y6 : Int32, y6 = z1 + z0 → ∀ y7 : Int32, y7 = b3 + 1 → G4 b1 y6 y7 μ) → G31 b1 b3 z0 z1 μ) →
  (G4 x1 0 0 μ)
def f_X6_change (x1 : Int32) (x2 : Int32) (x3 : Int32) (x4 : Int32) (x5 : Int32) (μ : Mem) (K : Int32 → Mem → Prop) : Prop :=
  (f_X6_isFeature x1 μ (fun r1 μ2 => (r1 = 0 → (K (-1) μ2)) ∧ (¬ r1 = 0 → (f_X6_isState x2 μ2 (fun r4 μ5 => (r4 = 0 → (K (-1) μ5)) ∧ (¬ r4 = 0 → (f_X6_isLetter x3 μ5 (fun r7 μ8 => (r7 = 0 → (K (-1) μ8)) ∧ (¬ r7 = 0 → (f_X6_isState x4 μ8 (fun r10 μ11 => (¬ r10 = 0 → (f_X6_in x5 0 9 μ11 (fun r13 μ14 => (¬ r13 = 0 → (f_X6_at x1 ((1 + (4 * x2)) + x3) μ14 (fun r16 μ17 => vp_in r16 239 ∧ ∀ μ19 : Mem, μ19 = wI μ17 1 (r16 : Int32).toNatClampNeg ((10 * x4) + x5) → f_X6_count x1 μ19 (fun r20 μ21 => K r20 μ21)))) ∧ (r13 = 0 → (K (-2) μ14))))) ∧ (r10 = 0 → (K (-1) μ11)))))))))))))
def f_X6_changeToNone (x1 : Int32) (x2 : Int32) (x3 : Int32) (μ : Mem) (K : Int32 → Mem → Prop) : Prop :=
  (f_X6_isFeature x1 μ (fun r1 μ2 => (r1 = 0 → (K (-1) μ2)) ∧ (¬ r1 = 0 → (f_X6_isState x2 μ2 (fun r4 μ5 => (r4 = 0 → (K (-1) μ5)) ∧ (¬ r4 = 0 → (f_X6_isLetter x3 μ5 (fun r7 μ8 => (¬ r7 = 0 → (f_X6_at x1 ((1 + (4 * x2)) + x3) μ8 (fun r10 μ11 => vp_in r10 239 ∧ ∀ μ13 : Mem, μ13 = wI μ11 1 (r10 : Int32).toNatClampNeg 100 → f_X6_count x1 μ13 (fun r14 μ15 => K r14 μ15)))) ∧ (r7 = 0 → (K (-1) μ8))))))))))
def f_X6_unchange (x1 : Int32) (x2 : Int32) (x3 : Int32) (μ : Mem) (K : Int32 → Mem → Prop) : Prop :=
  (f_X6_isFeature x1 μ (fun r1 μ2 => (r1 = 0 → (K (-1) μ2)) ∧ (¬ r1 = 0 → (f_X6_isState x2 μ2 (fun r4 μ5 => (r4 = 0 → (K (-1) μ5)) ∧ (¬ r4 = 0 → (f_X6_isLetter x3 μ5 (fun r7 μ8 => (¬ r7 = 0 → (f_X6_at x1 ((1 + (4 * x2)) + x3) μ8 (fun r10 μ11 => f_X6_puts r10 (-1) μ11 (fun r12 μ13 => (0 ≤ r12 → (f_X6_count x1 μ13 (fun r15 μ16 => K r15 μ16))) ∧ (¬ 0 ≤ r12 → (K (-5) μ13)))))) ∧ (r7 = 0 → (K (-1) μ8))))))))))
def f_X6_swap (x1 : Int32) (x2 : Int32) (μ : Mem) (K : Int32 → Mem → Prop) : Prop :=
  (vp_in x1 239 ∧ (∀ y2 : Int32, y2 = μ.1 1 (x1 : Int32).toNatClampNeg → vp_in x1 239 ∧ ∀ μ4 : Mem, μ4 = wI μ 1 (x1 : Int32).toNatClampNeg x2 → K y2 μ4))
def f_X6_setOn (x1 : Int32) (x2 : Int32) (μ : Mem) (K : Int32 → Mem → Prop) : Prop :=
  ∀ (G25 : Int32 → Int32 → Mem → Prop),
  (∀ (z0 : Int32) (z1 : Int32) (μ : Mem), (f_X6_swap z1 z0 μ (fun r7 μ8 => K r7 μ8)) → G25 z0 z1 μ) →
  (f_X6_isFeature x1 μ (fun r1 μ2 => (¬ r1 = 0 → (f_X6_at x1 0 μ2 (fun r4 μ5 => (x2 = 0 → (G25 0 r4 μ5)) ∧ (¬ x2 = 0 → (G25 1 r4 μ5))))) ∧ (r1 = 0 → (K (-1) μ2))))
def f_X6_features  (μ : Mem) (K : Int32 → Mem → Prop) : Prop :=
  (vp_in 34 239 ∧ (K (μ.1 1 (34 : Int32).toNatClampNeg) μ))
def f_X6_changes (x1 : Int32) (μ : Mem) (K : Int32 → Mem → Prop) : Prop :=
  (f_X6_isFeature x1 μ (fun r1 μ2 => (r1 = 0 → (K (-1) μ2)) ∧ (¬ r1 = 0 → (f_X6_count x1 μ2 (fun r4 μ5 => K r4 μ5)))))
def f_X6_append (x1 : Int32) (μ : Mem) (K : Int32 → Mem → Prop) : Prop :=
  (f_X6_in x1 0 127 μ (fun r1 μ2 => (¬ r1 = 0 → ((¬ (μ2.1 0 6) = 80 → (vp_in (μ2.1 0 6) 80 ∧ ∀ μ6 : Mem, μ6 = wI μ2 5 (μ2.1 0 6 : Int32).toNatClampNeg x1 → ∀ μ7 : Mem, μ7 = wI μ6 0 6 ((μ6.1 0 6) + 1) → K (μ7.1 0 6) μ7)) ∧ ((μ2.1 0 6) = 80 → (K (-4) μ2)))) ∧ (r1 = 0 → (K (-2) μ2))))
def f_X6_clearText  (μ : Mem) (K : Int32 → Mem → Prop) : Prop :=
  (∀ y1 : Int32, y1 = μ.1 0 6 → ∀ μ2 : Mem, μ2 = wI μ 0 6 0 → K y1 μ2)
def f_X6_here  (μ : Mem) (K : Int32 → Mem → Prop) : Prop :=
  (((μ.1 0 6) ≤ (μ.1 0 7) → (K (-1) μ)) ∧ (¬ (μ.1 0 6) ≤ (μ.1 0 7) → (vp_in (μ.1 0 7) 80 ∧ (K (μ.1 5 (μ.1 0 7 : Int32).toNatClampNeg) μ))))
def f_X6_takes (x1 : Int32) (μ : Mem) (K : Int32 → Mem → Prop) : Prop :=
  ∀ (G13 : Int32 → Mem → Prop),
  (∀ (z0 : Int32) (μ : Mem), ((z0 = 0 → (∀ μ5 : Mem, μ5 = wI μ 0 7 ((μ.1 0 7) + 0) → isB z0 ∧ K z0 μ5)) ∧ (¬ z0 = 0 → (∀ μ6 : Mem, μ6 = wI μ 0 7 ((μ.1 0 7) + 1) → isB z0 ∧ K z0 μ6))) → G13 z0 μ) →
  (f_X6_here  μ (fun r1 μ2 => (¬ r1 = x1 → (G13 0 μ2)) ∧ (r1 = x1 → (G13 1 μ2))))
def f_X6_digit (x1 : Int32) (μ : Mem) (K : Int32 → Mem → Prop) : Prop :=
  ∀ (G27 : Int32 → Int32 → Int32 → Int32 → Mem → Prop),
  (∀ (b1 : Int32) (b2 : Int32) (z0 : Int32) (z1 : Int32) (μ : Mem), (∀ μ7 : Mem, μ7 = wI μ 0 7 (z1 + z0) → f_X6_in b2 0 b1 μ7 (fun r8 μ9 => (r8 = 0 → (K (-1) μ9)) ∧ (¬ r8 = 0 → (K b2 μ9)))) → G27 b1 b2 z0 z1 μ) →
  (f_X6_here  μ (fun r1 μ2 => ∀ y3 : Int32, y3 = r1 - 48 → f_X6_in y3 0 x1 μ2 (fun r4 μ5 => (r4 = 0 → (G27 x1 y3 0 (μ2.1 0 7) μ5)) ∧ (¬ r4 = 0 → (G27 x1 y3 1 (μ2.1 0 7) μ5)))))
def f_X6_isChange  (μ : Mem) (K : Int32 → Mem → Prop) : Prop :=
  ∀ (G135 : Int32 → Int32 → Int32 → Mem → Prop),
  (∀ (b1 : Int32) (b2 : Int32) (b3 : Int32) (μ : Mem), (f_X6_takes 59 μ (fun r31 μ32 => (¬ r31 = 0 → (vp_in ((4 * b1) + b2) 32 ∧ ∀ μ35 : Mem, μ35 = wI μ32 6 ((4 * b1) + b2 : Int32).toNatClampNeg b3 → ∀ μ36 : Mem, μ36 = wI μ35 0 9 ((μ35.1 0 9) + 1) → K 1 μ36)) ∧ (r31 = 0 → (K 0 μ32)))) → G135 b1 b2 b3 μ) →
  (vp_in 0 239 ∧ (f_X6_digit ((μ.1 1 (0 : Int32).toNatClampNeg) - 1) μ (fun r2 μ3 => f_X6_here  μ3 (fun r4 μ5 => ∀ y6 : Int32, y6 = r4 - 97 → (r2 < 0 → (K 0 μ5)) ∧ (¬ r2 < 0 → (f_X6_isLetter y6 μ5 (fun r8 μ9 => (r8 = 0 → (K 0 μ9)) ∧ (¬ r8 = 0 → (vp_in ((4 * r2) + y6) 32 ∧ (((μ9.1 6 ((4 * r2) + y6 : Int32).toNatClampNeg) < 0 → (∀ μ13 : Mem, μ13 = wI μ9 0 7 ((μ9.1 0 7) + 1) → f_X6_takes 45 μ13 (fun r14 μ15 => (¬ r14 = 0 → (G135 r2 y6 100 μ15)) ∧ (r14 = 0 → (f_X6_takes 62 μ15 (fun r17 μ18 => (¬ r17 = 0 → (vp_in 0 239 ∧ (f_X6_digit ((μ18.1 1 (0 : Int32).toNatClampNeg) - 1) μ18 (fun r21 μ22 => (r21 < 0 → (K 0 μ22)) ∧ (¬ r21 < 0 → (f_X6_takes 47 μ22 (fun r24 μ25 => (¬ r24 = 0 → (f_X6_digit 9 μ25 (fun r27 μ28 => ∀ y29 : Int32, y29 = (10 * r21) + r27 → (0 ≤ r27 → (G135 r2 y6 y29 μ28)) ∧ (¬ 0 ≤ r27 → (K 0 μ28))))) ∧ (r24 = 0 → (K 0 μ25))))))))) ∧ (r17 = 0 → (K 0 μ18)))))))) ∧ (¬ (μ9.1 6 ((4 * r2) + y6 : Int32).toNatClampNeg) < 0 → (K 0 μ9))))))))))))
def f_X6_isText  (μ : Mem) (K : Int32 → Mem → Prop) : Prop :=
  ∀ (G12 : Int32 → Mem → Prop) (G33 : Int32 → Mem → Prop),
  (∀ (b1 : Int32) (μ : Mem), ((32 ≤ b1 → (G33 1 μ)) ∧ (¬ 32 ≤ b1 → (vp_in b1 32 ∧ ∀ μ5 : Mem, μ5 = wI μ 6 (b1 : Int32).toNatClampNeg (-1) → ∀ y6 : Int32, y6 = b1 + 1 → G12 y6 μ5))) → G12 b1 μ) →
  (∀ (b1 : Int32) (μ : Mem), ((b1 = 0 → (isB b1 ∧ K b1 μ)) ∧ (¬ b1 = 0 → (((μ.1 0 6) ≤ (μ.1 0 7) → (isB b1 ∧ K b1 μ)) ∧ (¬ (μ.1 0 6) ≤ (μ.1 0 7) → (f_X6_isChange  μ (fun r9 μ10 => G33 r9 μ10)))))) → G33 b1 μ) →
  (∀ μ1 : Mem, μ1 = wI μ 0 7 0 → ∀ μ2 : Mem, μ2 = wI μ1 0 9 0 → G12 0 μ2)
def f_X6_faultPosition  (μ : Mem) (K : Int32 → Mem → Prop) : Prop :=
  (f_X6_isText  μ (fun r1 μ2 => (r1 = 0 → (K (μ2.1 0 7) μ2)) ∧ (¬ r1 = 0 → (K (-5) μ2))))
def f_X6_read (x1 : Int32) (μ : Mem) (K : Int32 → Mem → Prop) : Prop :=
  ∀ (G15 : Int32 → Mem → Prop) (G27 : Int32 → Int32 → Mem → Prop) (G96 : Int32 → Int32 → Mem → Prop) (G95 : Int32 → Int32 → Int32 → Int32 → Mem → Prop),
  (∀ (b1 : Int32) (μ : Mem), (f_X6_isText  μ (fun r5 μ6 => (¬ r5 = 0 → (G27 b1 0 μ6)) ∧ (r5 = 0 → (K (-3) μ6)))) → G15 b1 μ) →
  (∀ (b1 : Int32) (b2 : Int32) (μ : Mem), ((32 ≤ b2 → (K (μ.1 0 9) μ)) ∧ (¬ 32 ≤ b2 → ((b1 < 0 → (vp_in b2 32 ∧ (((μ.1 6 (b2 : Int32).toNatClampNeg) < 0 → (G96 b1 b2 μ)) ∧ (¬ (μ.1 6 (b2 : Int32).toNatClampNeg) < 0 → (vp_in b2 32 ∧ ((¬ (μ.1 6 (b2 : Int32).toNatClampNeg) = 100 → (vp_in b2 32 ∧ (G95 b1 b2 (μ.1 6 (b2 : Int32).toNatClampNeg) (2 + b2) μ))) ∧ ((μ.1 6 (b2 : Int32).toNatClampNeg) = 100 → (G95 b1 b2 (-1) (2 + b2) μ)))))))) ∧ (¬ b1 < 0 → (f_X6_at b1 (1 + b2) μ (fun r15 μ16 => vp_in b2 32 ∧ (vp_in r15 239 ∧ ∀ μ19 : Mem, μ19 = wI μ16 1 (r15 : Int32).toNatClampNeg (μ16.1 6 (b2 : Int32).toNatClampNeg) → G96 b1 b2 μ19))))))) → G27 b1 b2 μ) →
  (∀ (b1 : Int32) (b2 : Int32) (μ : Mem), (∀ y20 : Int32, y20 = b2 + 1 → G27 b1 y20 μ) → G96 b1 b2 μ) →
  (∀ (b1 : Int32) (b2 : Int32) (z0 : Int32) (z1 : Int32) (μ : Mem), (vp_in z1 239 ∧ ∀ μ22 : Mem, μ22 = wI μ 1 (z1 : Int32).toNatClampNeg z0 → G96 b1 b2 μ22) → G95 b1 b2 z0 z1 μ) →
  ((x1 = (-1) → (G15 x1 μ)) ∧ (¬ x1 = (-1) → (f_X6_isFeature x1 μ (fun r2 μ3 => (¬ r2 = 0 → (G15 x1 μ3)) ∧ (r2 = 0 → (K (-1) μ3))))))
def f_X6_base (p1 : Nat) (μ : Mem) (K : Mem → Prop) : Prop :=
  ∀ (G2 : Int32 → Mem → Prop),
  (∀ (b2 : Int32) (μ : Mem), ((32 ≤ b2 → (K μ)) ∧ (¬ 32 ≤ b2 → (vp_in (2 + b2) 239 ∧ (vp_in b2 32 ∧ ∀ μ4 : Mem, μ4 = wI μ p1 (b2 : Int32).toNatClampNeg (μ.1 1 (2 + b2 : Int32).toNatClampNeg) → ∀ y5 : Int32, y5 = b2 + 1 → G2 y5 μ4)))) → G2 b2 μ) →
  (G2 0 μ)
def f_X6_putsOn (p1 : Nat) (x2 : Int32) (μ : Mem) (K : Mem → Prop) : Prop :=
  ∀ (G2 : Int32 → Int32 → Mem → Prop) (G48 : Int32 → Int32 → Int32 → Int32 → Mem → Prop),
  (∀ (b2 : Int32) (b3 : Int32) (μ : Mem), ((32 ≤ b3 → (K μ)) ∧ (¬ 32 ≤ b3 → (f_X6_at b2 (1 + b3) μ (fun r2 μ3 => vp_in r2 239 ∧ (∀ y5 : Int32, y5 = μ3.1 1 (r2 : Int32).toNatClampNeg → (0 ≤ y5 → ((¬ y5 = 100 → (G48 b2 b3 y5 b3 μ3)) ∧ (y5 = 100 → (G48 b2 b3 (-1) b3 μ3)))) ∧ (¬ 0 ≤ y5 → (vp_in b3 32 ∧ (G48 b2 b3 (μ3.1 p1 (b3 : Int32).toNatClampNeg) b3 μ3)))))))) → G2 b2 b3 μ) →
  (∀ (b2 : Int32) (b3 : Int32) (z0 : Int32) (z1 : Int32) (μ : Mem), (vp_in z1 32 ∧ ∀ μ10 : Mem, μ10 = wI μ p1 (z1 : Int32).toNatClampNeg z0 → ∀ y11 : Int32, y11 = b3 + 1 → G2 b2 y11 μ10) → G48 b2 b3 z0 z1 μ) →
  (G2 x2 0 μ)
def f_X6_output (p0 : Nat) (x1 : Int32) (x2 : Int32) (μ : Mem) (K : Int32 → Mem → Prop) : Prop :=
  ∀ (G16 : Mem → Prop),
  (∀ (μ : Mem), (K 10 μ) → G16 μ) →
  ((x1 = 8 → (G16 μ)) ∧ (¬ x1 = 8 → (vp_in ((4 * x1) + x2) 32 ∧ ((0 ≤ (μ.1 p0 ((4 * x1) + x2 : Int32).toNatClampNeg) → (vp_in ((4 * x1) + x2) 32 ∧ (K ((μ.1 p0 ((4 * x1) + x2 : Int32).toNatClampNeg) - (μ.1 p0 ((4 * x1) + x2 : Int32).toNatClampNeg) / 10 * 10) μ))) ∧ (¬ 0 ≤ (μ.1 p0 ((4 * x1) + x2 : Int32).toNatClampNeg) → (G16 μ))))))
def f_X6_next (p0 : Nat) (x1 : Int32) (x2 : Int32) (μ : Mem) (K : Int32 → Mem → Prop) : Prop :=
  ∀ (G16 : Mem → Prop),
  (∀ (μ : Mem), (K 8 μ) → G16 μ) →
  ((x1 = 8 → (G16 μ)) ∧ (¬ x1 = 8 → (vp_in ((4 * x1) + x2) 32 ∧ ((0 ≤ (μ.1 p0 ((4 * x1) + x2 : Int32).toNatClampNeg) → (vp_in ((4 * x1) + x2) 32 ∧ (K ((μ.1 p0 ((4 * x1) + x2 : Int32).toNatClampNeg) / 10) μ))) ∧ (¬ 0 ≤ (μ.1 p0 ((4 * x1) + x2 : Int32).toNatClampNeg) → (G16 μ))))))
def f_X6_tells (x1 : Int32) (x2 : Int32) (μ : Mem) (K : Int32 → Mem → Prop) : Prop :=
  ∀ (G5 : Int32 → Int32 → Int32 → Int32 → Mem → Prop) (G42 : Int32 → Int32 → Int32 → Mem → Prop),
  (∀ (b1 : Int32) (b2 : Int32) (b3 : Int32) (b4 : Int32) (μ : Mem), ((b4 ≤ 0 → (vp_in (b3 - 1) 82 ∧ ∀ μ3 : Mem, μ3 = wI μ 13 (b3 - 1 : Int32).toNatClampNeg b2 → ∀ y4 : Int32, y4 = b3 - 2 → G42 b3 y4 b1 μ3)) ∧ (¬ b4 ≤ 0 → (∀ y5 : Int32, y5 = b3 + 1 → vp_in b4 81 ∧ (∀ y7 : Int32, y7 = μ.1 10 (b4 : Int32).toNatClampNeg → G5 b1 b2 y5 y7 μ)))) → G5 b1 b2 b3 b4 μ) →
  (∀ (b3 : Int32) (b4 : Int32) (b5 : Int32) (μ : Mem), ((b5 ≤ 0 → (K b3 μ)) ∧ (¬ b5 ≤ 0 → (vp_in b5 81 ∧ (vp_in b4 82 ∧ ∀ μ11 : Mem, μ11 = wI μ 13 (b4 : Int32).toNatClampNeg (μ.1 11 (b5 : Int32).toNatClampNeg) → ∀ y12 : Int32, y12 = b4 + (-1) → vp_in b5 81 ∧ (∀ y14 : Int32, y14 = μ11.1 10 (b5 : Int32).toNatClampNeg → G42 b3 y12 y14 μ11))))) → G42 b3 b4 b5 μ) →
  (G5 x1 x2 1 x1 μ)
def f_X6_findApart  (μ : Mem) (K : Int32 → Mem → Prop) : Prop :=
  ∀ (G2 : Int32 → Mem → Prop) (G47 : Int32 → Int32 → Mem → Prop) (G22 : Int32 → Int32 → Int32 → Mem → Prop) (G76 : Int32 → Int32 → Int32 → Int32 → Int32 → Mem → Prop) (G190 : Int32 → Int32 → Int32 → Int32 → Int32 → Mem → Prop),
  (∀ (b1 : Int32) (μ : Mem), ((81 ≤ b1 → (vp_in 0 81 ∧ ∀ μ3 : Mem, μ3 = wI μ 9 (0 : Int32).toNatClampNeg 0 → vp_in 0 81 ∧ ∀ μ5 : Mem, μ5 = wI μ3 10 (0 : Int32).toNatClampNeg (-1) → G47 1 0 μ5)) ∧ (¬ 81 ≤ b1 → ((¬ b1 = 0 → (G22 b1 0 b1 μ)) ∧ (b1 = 0 → (G22 b1 1 b1 μ))))) → G2 b1 μ) →
  (∀ (b1 : Int32) (b2 : Int32) (μ : Mem), ((b1 ≤ b2 → (K 0 μ)) ∧ (¬ b1 ≤ b2 → (vp_in b2 81 ∧ (∀ y9 : Int32, y9 = (μ.1 9 (b2 : Int32).toNatClampNeg) / 9 → vp_in b2 81 ∧ (∀ y11 : Int32, y11 = (μ.1 9 (b2 : Int32).toNatClampNeg) - (μ.1 9 (b2 : Int32).toNatClampNeg) / 9 * 9 → G76 b1 b2 y9 y11 0 μ))))) → G47 b1 b2 μ) →
  (∀ (b1 : Int32) (z0 : Int32) (z1 : Int32) (μ : Mem), (vp_in z1 81 ∧ ∀ μ13 : Mem, μ13 = wI μ 12 (z1 : Int32).toNatClampNeg (vp_nar .boolean z0) → ∀ y14 : Int32, y14 = b1 + 1 → G2 y14 μ13) → G22 b1 z0 z1 μ) →
  (∀ (b1 : Int32) (b2 : Int32) (b3 : Int32) (b4 : Int32) (b5 : Int32) (μ : Mem), (vp_in 1 239 ∧ (((μ.1 1 (1 : Int32).toNatClampNeg) ≤ b5 → (∀ y17 : Int32, y17 = b2 + 1 → G47 b1 y17 μ)) ∧ (¬ (μ.1 1 (1 : Int32).toNatClampNeg) ≤ b5 → (f_X6_output 7 b3 b5 μ (fun r18 μ19 => f_X6_output 8 b4 b5 μ19 (fun r20 μ21 => (r18 = r20 → (f_X6_next 7 b3 b5 μ21 (fun r23 μ24 => f_X6_next 8 b4 b5 μ24 (fun r25 μ26 => ∀ y27 : Int32, y27 = (9 * r23) + r25 → vp_in y27 81 ∧ ((¬ (μ26.1 12 (y27 : Int32).toNatClampNeg) = 0 → (G190 b1 b2 b3 b4 b5 μ26)) ∧ ((μ26.1 12 (y27 : Int32).toNatClampNeg) = 0 → (vp_in y27 81 ∧ ∀ μ31 : Mem, μ31 = wI μ26 12 (y27 : Int32).toNatClampNeg (vp_nar .boolean 1) → vp_in b1 81 ∧ ∀ μ33 : Mem, μ33 = wI μ31 9 (b1 : Int32).toNatClampNeg y27 → vp_in b1 81 ∧ ∀ μ35 : Mem, μ35 = wI μ33 10 (b1 : Int32).toNatClampNeg b2 → vp_in b1 81 ∧ ∀ μ37 : Mem, μ37 = wI μ35 11 (b1 : Int32).toNatClampNeg b5 → ∀ y38 : Int32, y38 = b1 + 1 → G190 y38 b2 b3 b4 b5 μ37))))))) ∧ (¬ r18 = r20 → (f_X6_tells b2 b5 μ21 (fun r39 μ40 => K r39 μ40))))))))) → G76 b1 b2 b3 b4 b5 μ) →
  (∀ (b1 : Int32) (b2 : Int32) (b3 : Int32) (b4 : Int32) (b5 : Int32) (μ : Mem), (∀ y41 : Int32, y41 = b5 + 1 → G76 b1 b2 b3 b4 y41 μ) → G190 b1 b2 b3 b4 b5 μ) →
  (G2 0 μ)
def f_X6_findWitness (x1 : Int32) (x2 : Int32) (μ : Mem) (K : Int32 → Mem → Prop) : Prop :=
  (f_X6_base 7 μ (fun μ2 => f_X6_putsOn 7 x1 μ2 (fun μ4 => f_X6_putsOn 7 x2 μ4 (fun μ6 => f_X6_base 8 μ6 (fun μ8 => f_X6_putsOn 8 x2 μ8 (fun μ10 => f_X6_putsOn 8 x1 μ10 (fun μ12 => f_X6_findApart  μ12 (fun r13 μ14 => K r13 μ14))))))))
def f_X6_isPair (x1 : Int32) (x2 : Int32) (μ : Mem) (K : Int32 → Mem → Prop) : Prop :=
  (f_X6_isFeature x1 μ (fun r1 μ2 => (r1 = 0 → (K 0 μ2)) ∧ (¬ r1 = 0 → (f_X6_isFeature x2 μ2 (fun r4 μ5 => (r4 = 0 → (K 0 μ5)) ∧ (¬ r4 = 0 → ((x1 = x2 → (K 0 μ5)) ∧ (¬ x1 = x2 → (K 1 μ5)))))))))
def f_X6_clash (x1 : Int32) (x2 : Int32) (μ : Mem) (K : Int32 → Mem → Prop) : Prop :=
  (f_X6_isPair x1 x2 μ (fun r1 μ2 => (¬ r1 = 0 → (f_X6_findWitness x1 x2 μ2 (fun r4 μ5 => (r4 ≤ 0 → (K 0 μ5)) ∧ (¬ r4 ≤ 0 → (K 1 μ5))))) ∧ (r1 = 0 → (K (-1) μ2))))
def f_X6_witness (x1 : Int32) (x2 : Int32) (x3 : Int32) (μ : Mem) (K : Int32 → Mem → Prop) : Prop :=
  (f_X6_isPair x1 x2 μ (fun r1 μ2 => (r1 = 0 → (K (-1) μ2)) ∧ (¬ r1 = 0 → ((0 ≤ x3 → (f_X6_findWitness x1 x2 μ2 (fun r5 μ6 => (r5 ≤ x3 → (K (-5) μ6)) ∧ (¬ r5 ≤ x3 → (vp_in x3 82 ∧ (K (μ6.1 13 (x3 : Int32).toNatClampNeg) μ6)))))) ∧ (¬ 0 ≤ x3 → (K (-1) μ2))))))
def f_X6_isOn (x1 : Int32) (μ : Mem) (K : Int32 → Mem → Prop) : Prop :=
  (f_X6_at x1 0 μ (fun r1 μ2 => vp_in r1 239 ∧ ((¬ (μ2.1 1 (r1 : Int32).toNatClampNeg) = 1 → (K 0 μ2)) ∧ ((μ2.1 1 (r1 : Int32).toNatClampNeg) = 1 → (K 1 μ2)))))
def f_X6_clashesNow  (μ : Mem) (K : Int32 → Mem → Prop) : Prop :=
  ∀ (G4 : Int32 → Int32 → Mem → Prop) (G17 : Int32 → Int32 → Int32 → Mem → Prop) (G52 : Int32 → Int32 → Int32 → Mem → Prop) (G53 : Int32 → Int32 → Int32 → Int32 → Mem → Prop),
  (∀ (b1 : Int32) (b2 : Int32) (μ : Mem), (vp_in 34 239 ∧ (((μ.1 1 (34 : Int32).toNatClampNeg) ≤ b2 → (K b1 μ)) ∧ (¬ (μ.1 1 (34 : Int32).toNatClampNeg) ≤ b2 → (G17 b1 b2 0 μ)))) → G4 b1 b2 μ) →
  (∀ (b1 : Int32) (b2 : Int32) (b3 : Int32) (μ : Mem), ((b2 ≤ b3 → (∀ y4 : Int32, y4 = b2 + 1 → G4 b1 y4 μ)) ∧ (¬ b2 ≤ b3 → (f_X6_isOn b2 μ (fun r5 μ6 => (r5 = 0 → (G52 b2 b3 b1 μ6)) ∧ (¬ r5 = 0 → (f_X6_isOn b3 μ6 (fun r8 μ9 => (r8 = 0 → (G52 b2 b3 b1 μ9)) ∧ (¬ r8 = 0 → (f_X6_findWitness b3 b2 μ9 (fun r11 μ12 => (r11 ≤ 0 → (G52 b2 b3 b1 μ12)) ∧ (¬ r11 ≤ 0 → (G53 b2 b3 1 b1 μ12)))))))))))) → G17 b1 b2 b3 μ) →
  (∀ (b2 : Int32) (b3 : Int32) (z0 : Int32) (μ : Mem), (G53 b2 b3 0 z0 μ) → G52 b2 b3 z0 μ) →
  (∀ (b2 : Int32) (b3 : Int32) (z0 : Int32) (z1 : Int32) (μ : Mem), (∀ y14 : Int32, y14 = z1 + z0 → ∀ y15 : Int32, y15 = b3 + 1 → G17 y14 b2 y15 μ) → G53 b2 b3 z0 z1 μ) →
  (G4 0 0 μ)
def f_X6_clashes  (μ : Mem) (K : Int32 → Mem → Prop) : Prop :=
  (f_X6_clashesNow  μ (fun r1 μ2 => K r1 μ2))
def f_X6_findThose  (μ : Mem) (K : Int32 → Mem → Prop) : Prop :=
  ∀ (G9 : Int32 → Int32 → Mem → Prop) (G55 : Int32 → Int32 → Mem → Prop),
  (∀ (b1 : Int32) (b2 : Int32) (μ : Mem), (vp_in 34 239 ∧ (((μ.1 1 (34 : Int32).toNatClampNeg) ≤ b2 → (K b1 μ)) ∧ (¬ (μ.1 1 (34 : Int32).toNatClampNeg) ≤ b2 → (f_X6_isOn b2 μ (fun r4 μ5 => (r4 = 0 → (G55 b1 b2 μ5)) ∧ (¬ r4 = 0 → (vp_in (μ5.1 0 18) 6 ∧ ∀ μ8 : Mem, μ8 = wI μ5 14 (μ5.1 0 18 : Int32).toNatClampNeg b2 → ∀ μ9 : Mem, μ9 = wI μ8 0 18 ((μ8.1 0 18) + 1) → ∀ y10 : Int32, y10 = b1 * (μ9.1 0 18) → G55 y10 b2 μ9))))))) → G9 b1 b2 μ) →
  (∀ (b1 : Int32) (b2 : Int32) (μ : Mem), (∀ y11 : Int32, y11 = b2 + 1 → G9 b1 y11 μ) → G55 b1 b2 μ) →
  (∀ μ1 : Mem, μ1 = wI μ 0 18 0 → G9 1 0 μ1)
def f_X6_findOrder (x1 : Int32) (μ : Mem) (K : Mem → Prop) : Prop :=
  ∀ (G10 : Int32 → Int32 → Int32 → Int32 → Mem → Prop) (G35 : Int32 → Int32 → Int32 → Int32 → Mem → Prop) (G84 : Int32 → Int32 → Int32 → Int32 → Int32 → Mem → Prop) (G89 : Int32 → Int32 → Int32 → Int32 → Int32 → Int32 → Mem → Prop) (G104 : Int32 → Int32 → Int32 → Int32 → Int32 → Int32 → Mem → Prop) (G121 : Int32 → Int32 → Int32 → Int32 → Int32 → Int32 → Int32 → Mem → Prop),
  (∀ (b2 : Int32) (b3 : Int32) (b4 : Int32) (b5 : Int32) (μ : Mem), (((μ.1 0 18) ≤ b5 → (G35 b2 b3 b4 0 μ)) ∧ (¬ (μ.1 0 18) ≤ b5 → (∀ y2 : Int32, y2 = b4 * b5 → ∀ y3 : Int32, y3 = b5 + 1 → G10 b2 b3 y2 y3 μ))) → G10 b2 b3 b4 b5 μ) →
  (∀ (b2 : Int32) (b3 : Int32) (b4 : Int32) (b5 : Int32) (μ : Mem), (((μ.1 0 18) ≤ b5 → (K μ)) ∧ (¬ (μ.1 0 18) ≤ b5 → (¬ b4 = 0 ∧ (∀ y6 : Int32, y6 = b3 / b4 → ¬ b4 = 0 ∧ (∀ y8 : Int32, y8 = b3 - b3 / b4 * b4 → ((((μ.1 0 18) - 1) - b5) ≤ 1 → (G84 b2 y8 b5 y6 1 μ)) ∧ (¬ (((μ.1 0 18) - 1) - b5) ≤ 1 → (¬ (((μ.1 0 18) - 1) - b5) = 0 ∧ (G84 b2 y8 b5 y6 (b4 / (((μ.1 0 18) - 1) - b5)) μ)))))))) → G35 b2 b3 b4 b5 μ) →
  (∀ (b2 : Int32) (b3 : Int32) (b5 : Int32) (b6 : Int32) (z0 : Int32) (μ : Mem), (G89 b2 b3 z0 b5 b6 0 μ) → G84 b2 b3 b5 b6 z0 μ) →
  (∀ (b2 : Int32) (b3 : Int32) (b4 : Int32) (b5 : Int32) (b6 : Int32) (b7 : Int32) (μ : Mem), ((((b2 >>> (b7 &&& 31)) &&& 1) = 1 → (G104 b2 b3 b4 b5 b6 b7 μ)) ∧ (¬ ((b2 >>> (b7 &&& 31)) &&& 1) = 1 → ((b6 ≤ 0 → (∀ y13 : Int32, y13 = b2 ||| (1 <<< (b7 &&& 31)) → vp_in b7 6 ∧ (vp_in b5 6 ∧ ∀ μ16 : Mem, μ16 = wI μ 15 (b5 : Int32).toNatClampNeg (μ.1 14 (b7 : Int32).toNatClampNeg) → ∀ y17 : Int32, y17 = b5 + 1 → G35 y13 b3 b4 y17 μ16))) ∧ (¬ b6 ≤ 0 → (G104 b2 b3 b4 b5 b6 b7 μ))))) → G89 b2 b3 b4 b5 b6 b7 μ) →
  (∀ (b2 : Int32) (b3 : Int32) (b4 : Int32) (b5 : Int32) (b6 : Int32) (b7 : Int32) (μ : Mem), ((¬ ((b2 >>> (b7 &&& 31)) &&& 1) = 1 → (G121 b2 b3 b4 b5 b7 1 b6 μ)) ∧ (((b2 >>> (b7 &&& 31)) &&& 1) = 1 → (G121 b2 b3 b4 b5 b7 0 b6 μ))) → G104 b2 b3 b4 b5 b6 b7 μ) →
  (∀ (b2 : Int32) (b3 : Int32) (b4 : Int32) (b5 : Int32) (b7 : Int32) (z0 : Int32) (z1 : Int32) (μ : Mem), (∀ y19 : Int32, y19 = z1 - z0 → ∀ y20 : Int32, y20 = b7 + 1 → G89 b2 b3 b4 b5 y19 y20 μ) → G121 b2 b3 b4 b5 b7 z0 z1 μ) →
  (G10 0 x1 1 2 μ)
def f_X6_putsOrder (p1 : Nat) (μ : Mem) (K : Mem → Prop) : Prop :=
  ∀ (G7 : Int32 → Mem → Prop),
  (∀ (b2 : Int32) (μ : Mem), (((μ.1 0 18) ≤ b2 → (K μ)) ∧ (¬ (μ.1 0 18) ≤ b2 → (vp_in b2 6 ∧ (f_X6_putsOn p1 (μ.1 15 (b2 : Int32).toNatClampNeg) μ (fun μ6 => ∀ y7 : Int32, y7 = b2 + 1 → G7 y7 μ6))))) → G7 b2 μ) →
  (f_X6_base p1 μ (fun μ2 => G7 0 μ2))
def f_X6_results  (μ : Mem) (K : Int32 → Mem → Prop) : Prop :=
  ∀ (G9 : Int32 → Int32 → Int32 → Mem → Prop) (G33 : Int32 → Int32 → Int32 → Int32 → Int32 → Mem → Prop) (G100 : Int32 → Int32 → Int32 → Int32 → Mem → Prop) (G47 : Int32 → Int32 → Int32 → Int32 → Int32 → Mem → Prop) (G143 : Int32 → Int32 → Int32 → Mem → Prop) (G108 : Int32 → Int32 → Int32 → Int32 → Mem → Prop) (G92 : Int32 → Int32 → Int32 → Int32 → Int32 → Mem → Prop),
  (∀ (b1 : Int32) (b2 : Int32) (b3 : Int32) (μ : Mem), ((b1 ≤ b3 → (K b2 μ)) ∧ (¬ b1 ≤ b3 → (f_X6_findOrder b3 μ (fun μ5 => f_X6_putsOrder 7 μ5 (fun μ7 => G33 b1 b2 b3 1 0 μ7))))) → G9 b1 b2 b3 μ) →
  (∀ (b1 : Int32) (b2 : Int32) (b3 : Int32) (b4 : Int32) (b5 : Int32) (μ : Mem), ((b2 ≤ b5 → (G100 b1 b2 b3 b4 μ)) ∧ (¬ b2 ≤ b5 → ((b4 = 0 → (G100 b1 b2 b3 b4 μ)) ∧ (¬ b4 = 0 → (G47 b1 b2 b3 b5 0 μ))))) → G33 b1 b2 b3 b4 b5 μ) →
  (∀ (b1 : Int32) (b2 : Int32) (b3 : Int32) (b4 : Int32) (μ : Mem), ((b4 = 0 → (G143 b1 b2 b3 μ)) ∧ (¬ b4 = 0 → (G108 b1 b2 b3 0 μ))) → G100 b1 b2 b3 b4 μ) →
  (∀ (b1 : Int32) (b2 : Int32) (b3 : Int32) (b5 : Int32) (b6 : Int32) (μ : Mem), ((32 ≤ b6 → (f_X6_findApart  μ (fun r12 μ13 => (r12 ≤ 0 → (G92 b1 b2 b3 b5 0 μ13)) ∧ (¬ r12 ≤ 0 → (G92 b1 b2 b3 b5 1 μ13))))) ∧ (¬ 32 ≤ b6 → (vp_in ((32 * b5) + b6) 23040 ∧ (vp_in b6 32 ∧ ∀ μ17 : Mem, μ17 = wI μ 8 (b6 : Int32).toNatClampNeg (μ.1 16 ((32 * b5) + b6 : Int32).toNatClampNeg) → ∀ y18 : Int32, y18 = b6 + 1 → G47 b1 b2 b3 b5 y18 μ17)))) → G47 b1 b2 b3 b5 b6 μ) →
  (∀ (b1 : Int32) (b2 : Int32) (b3 : Int32) (μ : Mem), (∀ y19 : Int32, y19 = b3 + 1 → G9 b1 b2 y19 μ) → G143 b1 b2 b3 μ) →
  (∀ (b1 : Int32) (b2 : Int32) (b3 : Int32) (b5 : Int32) (μ : Mem), ((32 ≤ b5 → (∀ y21 : Int32, y21 = b2 + 1 → G143 b1 y21 b3 μ)) ∧ (¬ 32 ≤ b5 → (vp_in b5 32 ∧ (vp_in ((32 * b2) + b5) 23040 ∧ ∀ μ24 : Mem, μ24 = wI μ 16 ((32 * b2) + b5 : Int32).toNatClampNeg (μ.1 7 (b5 : Int32).toNatClampNeg) → ∀ y25 : Int32, y25 = b5 + 1 → G108 b1 b2 b3 y25 μ24)))) → G108 b1 b2 b3 b5 μ) →
  (∀ (b1 : Int32) (b2 : Int32) (b3 : Int32) (b5 : Int32) (z0 : Int32) (μ : Mem), (∀ y26 : Int32, y26 = b5 + 1 → G33 b1 b2 b3 z0 y26 μ) → G92 b1 b2 b3 b5 z0 μ) →
  (f_X6_findThose  μ (fun r1 μ2 => G9 r1 0 0 μ2))
def f_X6_reached (p1 : Nat) (μ : Mem) (K : Int32 → Mem → Prop) : Prop :=
  ∀ (G4 : Int32 → Int32 → Mem → Prop) (G13 : Int32 → Int32 → Int32 → Mem → Prop) (G52 : Int32 → Int32 → Int32 → Mem → Prop) (G53 : Int32 → Int32 → Int32 → Int32 → Mem → Prop),
  (∀ (b2 : Int32) (b3 : Int32) (μ : Mem), ((8 ≤ b3 → (K b2 μ)) ∧ (¬ 8 ≤ b3 → (G13 b2 b3 0 μ))) → G4 b2 b3 μ) →
  (∀ (b2 : Int32) (b3 : Int32) (b4 : Int32) (μ : Mem), ((32 ≤ b4 → (∀ y3 : Int32, y3 = b3 + 1 → G4 b2 y3 μ)) ∧ (¬ 32 ≤ b4 → ((¬ ((b2 >>> ((b4 / 4) &&& 31)) &&& 1) = 1 → (G52 b3 b4 b2 μ)) ∧ (((b2 >>> ((b4 / 4) &&& 31)) &&& 1) = 1 → (vp_in b4 32 ∧ (((μ.1 p1 (b4 : Int32).toNatClampNeg) < 0 → (G52 b3 b4 b2 μ)) ∧ (¬ (μ.1 p1 (b4 : Int32).toNatClampNeg) < 0 → (vp_in b4 32 ∧ (G53 b3 b4 (1 <<< (((μ.1 p1 (b4 : Int32).toNatClampNeg) / 10) &&& 31)) b2 μ))))))))) → G13 b2 b3 b4 μ) →
  (∀ (b3 : Int32) (b4 : Int32) (z0 : Int32) (μ : Mem), (G53 b3 b4 0 z0 μ) → G52 b3 b4 z0 μ) →
  (∀ (b3 : Int32) (b4 : Int32) (z0 : Int32) (z1 : Int32) (μ : Mem), (∀ y8 : Int32, y8 = z1 ||| z0 → ∀ y9 : Int32, y9 = b4 + 1 → G13 y8 b3 y9 μ) → G53 b3 b4 z0 z1 μ) →
  (G4 1 0 μ)
def f_X6_reachNow (x1 : Int32) (μ : Mem) (K : Int32 → Mem → Prop) : Prop :=
  ∀ (G42 : Int32 → Int32 → Int32 → Int32 → Mem → Prop) (G82 : Int32 → Int32 → Int32 → Int32 → Mem → Prop) (G83 : Int32 → Int32 → Int32 → Int32 → Int32 → Mem → Prop),
  (∀ (b1 : Int32) (b2 : Int32) (b3 : Int32) (b4 : Int32) (μ : Mem), ((32 ≤ b4 → (K b3 μ)) ∧ (¬ 32 ≤ b4 → (f_X6_at b1 (1 + b4) μ (fun r11 μ12 => vp_in r11 239 ∧ (((μ12.1 1 (r11 : Int32).toNatClampNeg) < 0 → (G82 b1 b2 b4 b3 μ12)) ∧ (¬ (μ12.1 1 (r11 : Int32).toNatClampNeg) < 0 → ((¬ ((b2 >>> ((b4 / 4) &&& 31)) &&& 1) = 1 → (G82 b1 b2 b4 b3 μ12)) ∧ (((b2 >>> ((b4 / 4) &&& 31)) &&& 1) = 1 → (G83 b1 b2 b4 1 b3 μ12))))))))) → G42 b1 b2 b3 b4 μ) →
  (∀ (b1 : Int32) (b2 : Int32) (b4 : Int32) (z0 : Int32) (μ : Mem), (G83 b1 b2 b4 0 z0 μ) → G82 b1 b2 b4 z0 μ) →
  (∀ (b1 : Int32) (b2 : Int32) (b4 : Int32) (z0 : Int32) (z1 : Int32) (μ : Mem), (∀ y16 : Int32, y16 = z1 + z0 → ∀ y17 : Int32, y17 = b4 + 1 → G42 b1 b2 y16 y17 μ) → G83 b1 b2 b4 z0 z1 μ) →
  (f_X6_base 7 μ (fun μ2 => f_X6_reached 7 μ2 (fun r3 μ4 => f_X6_putsOn 7 x1 μ4 (fun μ6 => f_X6_reached 7 μ6 (fun r7 μ8 => ∀ y9 : Int32, y9 = r3 ||| r7 → G42 x1 y9 0 0 μ8)))))
def f_X6_reach (x1 : Int32) (μ : Mem) (K : Int32 → Mem → Prop) : Prop :=
  (f_X6_isFeature x1 μ (fun r1 μ2 => (r1 = 0 → (K (-1) μ2)) ∧ (¬ r1 = 0 → (f_X6_reachNow x1 μ2 (fun r4 μ5 => K r4 μ5)))))
def f_X6_findBehind  (μ : Mem) (K : Mem → Prop) : Prop :=
  ∀ (G2 : Int32 → Mem → Prop) (G48 : Int32 → Mem → Prop) (G39 : Int32 → Int32 → Int32 → Mem → Prop) (G56 : Int32 → Int32 → Mem → Prop) (G64 : Int32 → Int32 → Int32 → Mem → Prop) (G101 : Int32 → Int32 → Int32 → Int32 → Int32 → Int32 → Mem → Prop),
  (∀ (b1 : Int32) (μ : Mem), ((6 ≤ b1 → (G48 0 μ)) ∧ (¬ 6 ≤ b1 → (vp_in 34 239 ∧ (((μ.1 1 (34 : Int32).toNatClampNeg) ≤ b1 → (G39 b1 0 b1 μ)) ∧ (¬ (μ.1 1 (34 : Int32).toNatClampNeg) ≤ b1 → (f_X6_at b1 33 μ (fun r4 μ5 => vp_in r4 239 ∧ (G39 b1 (μ5.1 1 (r4 : Int32).toNatClampNeg) b1 μ5)))))))) → G2 b1 μ) →
  (∀ (b1 : Int32) (μ : Mem), ((6 ≤ b1 → (K μ)) ∧ (¬ 6 ≤ b1 → (G56 b1 0 μ))) → G48 b1 μ) →
  (∀ (b1 : Int32) (z0 : Int32) (z1 : Int32) (μ : Mem), (vp_in z1 6 ∧ ∀ μ9 : Mem, μ9 = wI μ 17 (z1 : Int32).toNatClampNeg z0 → ∀ y10 : Int32, y10 = b1 + 1 → G2 y10 μ9) → G39 b1 z0 z1 μ) →
  (∀ (b1 : Int32) (b2 : Int32) (μ : Mem), ((6 ≤ b2 → (∀ y12 : Int32, y12 = b1 + 1 → G48 y12 μ)) ∧ (¬ 6 ≤ b2 → (G64 b1 b2 0 μ))) → G56 b1 b2 μ) →
  (∀ (b1 : Int32) (b2 : Int32) (b3 : Int32) (μ : Mem), ((6 ≤ b3 → (∀ y14 : Int32, y14 = b2 + 1 → G56 b1 y14 μ)) ∧ (¬ 6 ≤ b3 → (vp_in b2 6 ∧ (vp_in b2 6 ∧ ((¬ (((μ.1 17 (b2 : Int32).toNatClampNeg) >>> (b3 &&& 31)) &&& 1) = 1 → (G101 b1 b2 b3 0 (μ.1 17 (b2 : Int32).toNatClampNeg) b2 μ)) ∧ ((((μ.1 17 (b2 : Int32).toNatClampNeg) >>> (b3 &&& 31)) &&& 1) = 1 → (vp_in b3 6 ∧ (G101 b1 b2 b3 (μ.1 17 (b3 : Int32).toNatClampNeg) (μ.1 17 (b2 : Int32).toNatClampNeg) b2 μ)))))))) → G64 b1 b2 b3 μ) →
  (∀ (b1 : Int32) (b2 : Int32) (b3 : Int32) (z0 : Int32) (z1 : Int32) (z2 : Int32) (μ : Mem), (vp_in z2 6 ∧ ∀ μ20 : Mem, μ20 = wI μ 17 (z2 : Int32).toNatClampNeg (z1 ||| z0) → ∀ y21 : Int32, y21 = b3 + 1 → G64 b1 b2 y21 μ20) → G101 b1 b2 b3 z0 z1 z2 μ) →
  (G2 0 μ)
def f_X6_isAhead (x1 : Int32) (x2 : Int32) (μ : Mem) (K : Int32 → Mem → Prop) : Prop :=
  (vp_in x1 6 ∧ ((¬ (((μ.1 17 (x1 : Int32).toNatClampNeg) >>> (x2 &&& 31)) &&& 1) = 1 → (K 0 μ)) ∧ ((((μ.1 17 (x1 : Int32).toNatClampNeg) >>> (x2 &&& 31)) &&& 1) = 1 → (K 1 μ))))
def f_X6_aheads  (μ : Mem) (K : Int32 → Mem → Prop) : Prop :=
  ∀ (G8 : Int32 → Int32 → Mem → Prop) (G35 : Int32 → Int32 → Int32 → Mem → Prop),
  (∀ (b1 : Int32) (b2 : Int32) (μ : Mem), ((36 ≤ b2 → (K b1 μ)) ∧ (¬ 36 ≤ b2 → (f_X6_isAhead (b2 / 6) (b2 - b2 / 6 * 6) μ (fun r4 μ5 => (r4 = 0 → (G35 b2 0 b1 μ5)) ∧ (¬ r4 = 0 → (G35 b2 1 b1 μ5)))))) → G8 b1 b2 μ) →
  (∀ (b2 : Int32) (z0 : Int32) (z1 : Int32) (μ : Mem), (∀ y7 : Int32, y7 = z1 + z0 → ∀ y8 : Int32, y8 = b2 + 1 → G8 y7 y8 μ) → G35 b2 z0 z1 μ) →
  (f_X6_findBehind  μ (fun μ2 => G8 0 0 μ2))
def f_X6_setBefore (x1 : Int32) (x2 : Int32) (μ : Mem) (K : Int32 → Mem → Prop) : Prop :=
  (f_X6_isPair x1 x2 μ (fun r1 μ2 => (¬ r1 = 0 → (f_X6_findBehind  μ2 (fun μ5 => f_X6_isAhead x2 x1 μ5 (fun r6 μ7 => (r6 = 0 → (f_X6_at x1 33 μ7 (fun r9 μ10 => vp_in r9 239 ∧ (vp_in r9 239 ∧ ∀ μ13 : Mem, μ13 = wI μ10 1 (r9 : Int32).toNatClampNeg ((μ10.1 1 (r9 : Int32).toNatClampNeg) ||| (1 <<< (x2 &&& 31))) → f_X6_aheads  μ13 (fun r14 μ15 => K r14 μ15))))) ∧ (¬ r6 = 0 → (K (-3) μ7)))))) ∧ (r1 = 0 → (K (-1) μ2))))
def f_X6_clearPriorities  (μ : Mem) (K : Int32 → Mem → Prop) : Prop :=
  ∀ (G7 : Int32 → Int32 → Mem → Prop),
  (∀ (b1 : Int32) (b2 : Int32) (μ : Mem), (vp_in 34 239 ∧ (((μ.1 1 (34 : Int32).toNatClampNeg) ≤ b2 → (K b1 μ)) ∧ (¬ (μ.1 1 (34 : Int32).toNatClampNeg) ≤ b2 → (f_X6_at b2 33 μ (fun r5 μ6 => vp_in r5 239 ∧ ∀ μ8 : Mem, μ8 = wI μ6 1 (r5 : Int32).toNatClampNeg 0 → ∀ y9 : Int32, y9 = b2 + 1 → G7 b1 y9 μ8))))) → G7 b1 b2 μ) →
  (f_X6_aheads  μ (fun r1 μ2 => G7 r1 0 μ2))
def f_X6_isBefore (x1 : Int32) (x2 : Int32) (μ : Mem) (K : Int32 → Mem → Prop) : Prop :=
  (f_X6_isFeature x1 μ (fun r1 μ2 => (r1 = 0 → (K (-1) μ2)) ∧ (¬ r1 = 0 → (f_X6_isFeature x2 μ2 (fun r4 μ5 => (¬ r4 = 0 → (f_X6_findBehind  μ5 (fun μ8 => f_X6_isAhead x1 x2 μ8 (fun r9 μ10 => (r9 = 0 → (K 0 μ10)) ∧ (¬ r9 = 0 → (K 1 μ10)))))) ∧ (r4 = 0 → (K (-1) μ5)))))))
def f_X6_isAllowed  (μ : Mem) (K : Int32 → Mem → Prop) : Prop :=
  ∀ (G4 : Int32 → Int32 → Mem → Prop) (G14 : Int32 → Int32 → Int32 → Mem → Prop) (G46 : Int32 → Int32 → Mem → Prop) (G47 : Int32 → Int32 → Int32 → Mem → Prop),
  (∀ (b1 : Int32) (b2 : Int32) (μ : Mem), (((μ.1 0 18) ≤ b2 → (isB b1 ∧ K b1 μ)) ∧ (¬ (μ.1 0 18) ≤ b2 → (G14 b1 b2 0 μ))) → G4 b1 b2 μ) →
  (∀ (b1 : Int32) (b2 : Int32) (b3 : Int32) (μ : Mem), ((b2 ≤ b3 → (∀ y3 : Int32, y3 = b2 + 1 → G4 b1 y3 μ)) ∧ (¬ b2 ≤ b3 → ((b1 = 0 → (G46 b2 b3 μ)) ∧ (¬ b1 = 0 → (vp_in b2 6 ∧ (vp_in b3 6 ∧ (f_X6_isAhead (μ.1 15 (b2 : Int32).toNatClampNeg) (μ.1 15 (b3 : Int32).toNatClampNeg) μ (fun r7 μ8 => (¬ r7 = 0 → (G46 b2 b3 μ8)) ∧ (r7 = 0 → (G47 b2 b3 1 μ8)))))))))) → G14 b1 b2 b3 μ) →
  (∀ (b2 : Int32) (b3 : Int32) (μ : Mem), (G47 b2 b3 0 μ) → G46 b2 b3 μ) →
  (∀ (b2 : Int32) (b3 : Int32) (z0 : Int32) (μ : Mem), (∀ y10 : Int32, y10 = b3 + 1 → G14 z0 b2 y10 μ) → G47 b2 b3 z0 μ) →
  (G4 1 0 μ)
def f_X6_ordersNow  (μ : Mem) (K : Int32 → Mem → Prop) : Prop :=
  ∀ (G13 : Int32 → Int32 → Int32 → Mem → Prop) (G36 : Int32 → Int32 → Int32 → Int32 → Mem → Prop),
  (∀ (b1 : Int32) (b2 : Int32) (b3 : Int32) (μ : Mem), ((b1 ≤ b3 → (K b2 μ)) ∧ (¬ b1 ≤ b3 → (f_X6_findOrder b3 μ (fun μ7 => f_X6_isAllowed  μ7 (fun r8 μ9 => (r8 = 0 → (G36 b1 b3 0 b2 μ9)) ∧ (¬ r8 = 0 → (G36 b1 b3 1 b2 μ9))))))) → G13 b1 b2 b3 μ) →
  (∀ (b1 : Int32) (b3 : Int32) (z0 : Int32) (z1 : Int32) (μ : Mem), (∀ y11 : Int32, y11 = z1 + z0 → ∀ y12 : Int32, y12 = b3 + 1 → G13 b1 y11 y12 μ) → G36 b1 b3 z0 z1 μ) →
  (f_X6_findBehind  μ (fun μ2 => f_X6_findThose  μ2 (fun r3 μ4 => G13 r3 0 0 μ4)))
def f_X6_orders  (μ : Mem) (K : Int32 → Mem → Prop) : Prop :=
  (f_X6_ordersNow  μ (fun r1 μ2 => K r1 μ2))
def f_X6_findResolved  (μ : Mem) (K : Int32 → Mem → Prop) : Prop :=
  ∀ (G16 : Int32 → Mem → Prop),
  (∀ (b2 : Int32) (μ : Mem), (f_X6_isAllowed  μ (fun r7 μ8 => (¬ r7 = 0 → (K (μ8.1 0 18) μ8)) ∧ (r7 = 0 → (∀ y10 : Int32, y10 = b2 + 1 → f_X6_findOrder y10 μ8 (fun μ12 => G16 y10 μ12))))) → G16 b2 μ) →
  (f_X6_findBehind  μ (fun μ2 => f_X6_findThose  μ2 (fun r3 μ4 => f_X6_findOrder 0 μ4 (fun μ6 => G16 0 μ6))))
def f_X6_resolved (x1 : Int32) (μ : Mem) (K : Int32 → Mem → Prop) : Prop :=
  ((0 ≤ x1 → (f_X6_findResolved  μ (fun r2 μ3 => (r2 ≤ x1 → (K (-5) μ3)) ∧ (¬ r2 ≤ x1 → (vp_in x1 6 ∧ (K (μ3.1 15 (x1 : Int32).toNatClampNeg) μ3)))))) ∧ (¬ 0 ≤ x1 → (K (-1) μ)))
def f_X6_isOpen (x1 : Int32) (x2 : Int32) (μ : Mem) (K : Int32 → Mem → Prop) : Prop :=
  (f_X6_isOn x1 μ (fun r1 μ2 => (r1 = 0 → (K 0 μ2)) ∧ (¬ r1 = 0 → (f_X6_isOn x2 μ2 (fun r4 μ5 => (r4 = 0 → (K 0 μ5)) ∧ (¬ r4 = 0 → (f_X6_isAhead x1 x2 μ5 (fun r7 μ8 => (¬ r7 = 0 → (K 0 μ8)) ∧ (r7 = 0 → (f_X6_isAhead x2 x1 μ8 (fun r10 μ11 => (¬ r10 = 0 → (K 0 μ11)) ∧ (r10 = 0 → (f_X6_findWitness x1 x2 μ11 (fun r13 μ14 => (r13 ≤ 0 → (K 0 μ14)) ∧ (¬ r13 ≤ 0 → (K 1 μ14))))))))))))))))
def f_X6_openNow  (μ : Mem) (K : Int32 → Mem → Prop) : Prop :=
  ∀ (G8 : Int32 → Int32 → Mem → Prop) (G23 : Int32 → Int32 → Int32 → Mem → Prop) (G49 : Int32 → Int32 → Int32 → Int32 → Mem → Prop),
  (∀ (b1 : Int32) (b2 : Int32) (μ : Mem), (vp_in 34 239 ∧ (((μ.1 1 (34 : Int32).toNatClampNeg) ≤ b2 → (K b1 μ)) ∧ (¬ (μ.1 1 (34 : Int32).toNatClampNeg) ≤ b2 → (∀ y5 : Int32, y5 = b2 + 1 → G23 b1 b2 y5 μ)))) → G8 b1 b2 μ) →
  (∀ (b1 : Int32) (b2 : Int32) (b3 : Int32) (μ : Mem), (vp_in 34 239 ∧ (((μ.1 1 (34 : Int32).toNatClampNeg) ≤ b3 → (∀ y8 : Int32, y8 = b2 + 1 → G8 b1 y8 μ)) ∧ (¬ (μ.1 1 (34 : Int32).toNatClampNeg) ≤ b3 → (f_X6_isOpen b2 b3 μ (fun r9 μ10 => (r9 = 0 → (G49 b2 b3 0 b1 μ10)) ∧ (¬ r9 = 0 → (G49 b2 b3 1 b1 μ10))))))) → G23 b1 b2 b3 μ) →
  (∀ (b2 : Int32) (b3 : Int32) (z0 : Int32) (z1 : Int32) (μ : Mem), (∀ y12 : Int32, y12 = z1 + z0 → ∀ y13 : Int32, y13 = b3 + 1 → G23 y12 b2 y13 μ) → G49 b2 b3 z0 z1 μ) →
  (f_X6_findBehind  μ (fun μ2 => G8 0 0 μ2))
def f_X6_open  (μ : Mem) (K : Int32 → Mem → Prop) : Prop :=
  (f_X6_openNow  μ (fun r1 μ2 => K r1 μ2))
def f_X6_isResolvedNow  (μ : Mem) (K : Int32 → Mem → Prop) : Prop :=
  ∀ (G23 : Int32 → Int32 → Int32 → Mem → Prop) (G73 : Int32 → Mem → Prop) (G67 : Int32 → Int32 → Int32 → Mem → Prop) (G66 : Int32 → Int32 → Int32 → Mem → Prop),
  (∀ (b2 : Int32) (b3 : Int32) (b4 : Int32) (μ : Mem), ((b2 ≤ b4 → (G73 b3 μ)) ∧ (¬ b2 ≤ b4 → ((b3 = 0 → (G73 b3 μ)) ∧ (¬ b3 = 0 → (f_X6_findOrder b4 μ (fun μ10 => f_X6_isAllowed  μ10 (fun r11 μ12 => (r11 = 0 → (G67 b2 b3 b4 μ12)) ∧ (¬ r11 = 0 → (f_X6_putsOrder 8 μ12 (fun μ15 => f_X6_findApart  μ15 (fun r16 μ17 => (¬ r16 = 0 → (G66 b2 b4 0 μ17)) ∧ (r16 = 0 → (G66 b2 b4 1 μ17))))))))))))) → G23 b2 b3 b4 μ) →
  (∀ (b3 : Int32) (μ : Mem), ((b3 = 0 → (K 0 μ)) ∧ (¬ b3 = 0 → (K 1 μ))) → G73 b3 μ) →
  (∀ (b2 : Int32) (b3 : Int32) (b4 : Int32) (μ : Mem), (∀ y20 : Int32, y20 = b4 + 1 → G23 b2 b3 y20 μ) → G67 b2 b3 b4 μ) →
  (∀ (b2 : Int32) (b4 : Int32) (z0 : Int32) (μ : Mem), (G67 b2 z0 b4 μ) → G66 b2 b4 z0 μ) →
  (f_X6_findResolved  μ (fun r1 μ2 => f_X6_putsOrder 7 μ2 (fun μ4 => f_X6_findThose  μ4 (fun r5 μ6 => G23 r5 1 0 μ6))))
def f_X6_isResolved  (μ : Mem) (K : Int32 → Mem → Prop) : Prop :=
  (f_X6_isResolvedNow  μ (fun r1 μ2 => K r1 μ2))
def f_X6_resolve  (μ : Mem) (K : Int32 → Mem → Prop) : Prop :=
  ∀ (G8 : Int32 → Int32 → Mem → Prop) (G23 : Int32 → Int32 → Int32 → Mem → Prop) (G67 : Int32 → Int32 → Int32 → Mem → Prop),
  (∀ (b1 : Int32) (b2 : Int32) (μ : Mem), (vp_in 34 239 ∧ (((μ.1 1 (34 : Int32).toNatClampNeg) ≤ b2 → (K b1 μ)) ∧ (¬ (μ.1 1 (34 : Int32).toNatClampNeg) ≤ b2 → (∀ y5 : Int32, y5 = b2 + 1 → G23 b1 b2 y5 μ)))) → G8 b1 b2 μ) →
  (∀ (b1 : Int32) (b2 : Int32) (b3 : Int32) (μ : Mem), (vp_in 34 239 ∧ (((μ.1 1 (34 : Int32).toNatClampNeg) ≤ b3 → (∀ y8 : Int32, y8 = b2 + 1 → G8 b1 y8 μ)) ∧ (¬ (μ.1 1 (34 : Int32).toNatClampNeg) ≤ b3 → (f_X6_isOpen b2 b3 μ (fun r9 μ10 => (r9 = 0 → (G67 b1 b2 b3 μ10)) ∧ (¬ r9 = 0 → (f_X6_at b2 33 μ10 (fun r12 μ13 => vp_in r12 239 ∧ (vp_in r12 239 ∧ ∀ μ16 : Mem, μ16 = wI μ13 1 (r12 : Int32).toNatClampNeg ((μ13.1 1 (r12 : Int32).toNatClampNeg) ||| (1 <<< (b3 &&& 31))) → f_X6_findBehind  μ16 (fun μ18 => ∀ y19 : Int32, y19 = b1 + 1 → G67 y19 b2 b3 μ18)))))))))) → G23 b1 b2 b3 μ) →
  (∀ (b1 : Int32) (b2 : Int32) (b3 : Int32) (μ : Mem), (∀ y20 : Int32, y20 = b3 + 1 → G23 b1 b2 y20 μ) → G67 b1 b2 b3 μ) →
  (f_X6_findBehind  μ (fun μ2 => G8 0 0 μ2))
def f_X6_add (x1 : Int32) (μ : Mem) (K : Int32 → Mem → Prop) : Prop :=
  (f_X6_isLetter x1 μ (fun r1 μ2 => (¬ r1 = 0 → ((¬ (μ2.1 0 4) = 20 → (vp_in (μ2.1 0 4) 20 ∧ ∀ μ6 : Mem, μ6 = wI μ2 4 (μ2.1 0 4 : Int32).toNatClampNeg x1 → ∀ μ7 : Mem, μ7 = wI μ6 0 4 ((μ6.1 0 4) + 1) → K (μ7.1 0 4) μ7)) ∧ ((μ2.1 0 4) = 20 → (K (-4) μ2)))) ∧ (r1 = 0 → (K (-1) μ2))))
def f_X6_clearWord  (μ : Mem) (K : Int32 → Mem → Prop) : Prop :=
  (∀ y1 : Int32, y1 = μ.1 0 4 → ∀ μ2 : Mem, μ2 = wI μ 0 4 0 → K y1 μ2)
def f_X6_findResolvedMachine  (μ : Mem) (K : Mem → Prop) : Prop :=
  (f_X6_findResolved  μ (fun r1 μ2 => f_X6_putsOrder 7 μ2 (fun μ4 => K μ4)))
def f_X6_answerOf (x1 : Int32) (μ : Mem) (K : Int32 → Mem → Prop) : Prop :=
  ∀ (G4 : Int32 → Int32 → Int32 → Mem → Prop),
  (∀ (b1 : Int32) (b2 : Int32) (b3 : Int32) (μ : Mem), ((b1 ≤ b3 → (vp_in b1 20 ∧ (f_X6_output 7 b2 (μ.1 4 (b1 : Int32).toNatClampNeg) μ (fun r3 μ4 => K r3 μ4)))) ∧ (¬ b1 ≤ b3 → (vp_in b3 20 ∧ (f_X6_next 7 b2 (μ.1 4 (b3 : Int32).toNatClampNeg) μ (fun r6 μ7 => ∀ y8 : Int32, y8 = b3 + 1 → G4 b1 r6 y8 μ7))))) → G4 b1 b2 b3 μ) →
  (G4 x1 0 0 μ)
def f_X6_answer (x1 : Int32) (x2 : Int32) (μ : Mem) (K : Int32 → Mem → Prop) : Prop :=
  ∀ (G56 : Int32 → Int32 → Mem → Prop) (G69 : Int32 → Mem → Prop),
  (∀ (b1 : Int32) (b2 : Int32) (μ : Mem), ((b1 < 0 → (G69 b2 μ)) ∧ (¬ b1 < 0 → (f_X6_putsOn 7 b1 μ (fun μ14 => G69 b2 μ14)))) → G56 b1 b2 μ) →
  (∀ (b2 : Int32) (μ : Mem), (f_X6_answerOf b2 μ (fun r15 μ16 => K r15 μ16)) → G69 b2 μ) →
  (vp_in 34 239 ∧ (f_X6_in x1 (-2) ((μ.1 1 (34 : Int32).toNatClampNeg) - 1) μ (fun r2 μ3 => (r2 = 0 → (K (-1) μ3)) ∧ (¬ r2 = 0 → ((0 ≤ x2 → ((x2 < (μ3.1 0 4) → ((¬ x1 = (-2) → (f_X6_base 7 μ3 (fun μ9 => G56 x1 x2 μ9))) ∧ (x1 = (-2) → (f_X6_findResolvedMachine  μ3 (fun μ11 => G56 x1 x2 μ11))))) ∧ (¬ x2 < (μ3.1 0 4) → (K (-5) μ3)))) ∧ (¬ 0 ≤ x2 → (K (-1) μ3)))))))
def f_X6_effects  (μ : Mem) (K : Int32 → Mem → Prop) : Prop :=
  (f_X6_findResolvedMachine  μ (fun μ2 => f_X6_base 8 μ2 (fun μ4 => f_X6_findApart  μ4 (fun r5 μ6 => K r5 μ6))))
def f_X6_effect (x1 : Int32) (μ : Mem) (K : Int32 → Mem → Prop) : Prop :=
  ((0 ≤ x1 → (f_X6_effects  μ (fun r2 μ3 => (r2 ≤ x1 → (K (-5) μ3)) ∧ (¬ r2 ≤ x1 → (vp_in x1 82 ∧ (K (μ3.1 13 (x1 : Int32).toNatClampNeg) μ3)))))) ∧ (¬ 0 ≤ x1 → (K (-1) μ)))
def f_X6_save (x1 : Int32) (μ : Mem) (K : Int32 → Mem → Prop) : Prop :=
  ∀ (G13 : Int32 → Int32 → Mem → Prop),
  (∀ (b1 : Int32) (b2 : Int32) (μ : Mem), ((239 ≤ b2 → (vp_in b1 2 ∧ ∀ μ6 : Mem, μ6 = wI μ 3 (b1 : Int32).toNatClampNeg (vp_nar .boolean 1) → vp_in 34 239 ∧ (K (μ6.1 1 (34 : Int32).toNatClampNeg) μ6))) ∧ (¬ 239 ≤ b2 → (vp_in b2 239 ∧ (vp_in ((239 * b1) + b2) 478 ∧ ∀ μ10 : Mem, μ10 = wI μ 2 ((239 * b1) + b2 : Int32).toNatClampNeg (μ.1 1 (b2 : Int32).toNatClampNeg) → ∀ y11 : Int32, y11 = b2 + 1 → G13 b1 y11 μ10)))) → G13 b1 b2 μ) →
  (f_X6_in x1 0 1 μ (fun r1 μ2 => (¬ r1 = 0 → (G13 x1 0 μ2)) ∧ (r1 = 0 → (K (-1) μ2))))
def f_X6_restore (x1 : Int32) (μ : Mem) (K : Int32 → Mem → Prop) : Prop :=
  ∀ (G25 : Int32 → Int32 → Mem → Prop),
  (∀ (b1 : Int32) (b2 : Int32) (μ : Mem), ((239 ≤ b2 → (∀ μ7 : Mem, μ7 = wI μ 0 4 0 → vp_in 34 239 ∧ (K (μ7.1 1 (34 : Int32).toNatClampNeg) μ7))) ∧ (¬ 239 ≤ b2 → (vp_in ((239 * b1) + b2) 478 ∧ (vp_in b2 239 ∧ ∀ μ11 : Mem, μ11 = wI μ 1 (b2 : Int32).toNatClampNeg (μ.1 2 ((239 * b1) + b2 : Int32).toNatClampNeg) → ∀ y12 : Int32, y12 = b2 + 1 → G25 b1 y12 μ11)))) → G25 b1 b2 μ) →
  (f_X6_in x1 0 1 μ (fun r1 μ2 => (¬ r1 = 0 → (vp_in x1 2 ∧ ((¬ (μ2.1 3 (x1 : Int32).toNatClampNeg) = 0 → (G25 x1 0 μ2)) ∧ ((μ2.1 3 (x1 : Int32).toNatClampNeg) = 0 → (K (-3) μ2))))) ∧ (r1 = 0 → (K (-1) μ2))))
def f_X6_more (x0 : Int64) (x2 : Int32) (μ : Mem) (K : Int64 → Mem → Prop) : Prop :=
  (K ((31 * x0) + ((x2 : Int32).toInt64)) μ)
def f_X6_moreApart (x1 : Int64) (x3 : Int32) (μ : Mem) (K : Int64 → Mem → Prop) : Prop :=
  ∀ (G6 : Int32 → Int64 → Int32 → Mem → Prop),
  (∀ (b3 : Int32) (b4 : Int64) (b6 : Int32) (μ : Mem), ((b3 ≤ b6 → (K b4 μ)) ∧ (¬ b3 ≤ b6 → (vp_in b6 82 ∧ (f_X6_more b4 (μ.1 13 (b6 : Int32).toNatClampNeg) μ (fun r3 μ4 => ∀ y5 : Int32, y5 = b6 + 1 → G6 b3 r3 y5 μ4))))) → G6 b3 b4 b6 μ) →
  (G6 x3 x1 0 μ)
def f_X6_checksum  (μ : Mem) (K : Int64 → Mem → Prop) : Prop :=
  ∀ (G16 : Int64 → Int32 → Mem → Prop) (G142 : Int64 → Int32 → Int32 → Mem → Prop) (G50 : Int64 → Int32 → Int32 → Mem → Prop) (G183 : Int64 → Int32 → Mem → Prop) (G83 : Int32 → Int32 → Int32 → Int32 → Int64 → Mem → Prop),
  (∀ (b1 : Int64) (b3 : Int32) (μ : Mem), (vp_in 34 239 ∧ (((μ.1 1 (34 : Int32).toNatClampNeg) ≤ b3 → (f_X6_clashesNow  μ (fun r6 μ7 => f_X6_more b1 r6 μ7 (fun r8 μ9 => f_X6_ordersNow  μ9 (fun r10 μ11 => f_X6_more r8 r10 μ11 (fun r12 μ13 => f_X6_openNow  μ13 (fun r14 μ15 => f_X6_more r12 r14 μ15 (fun r16 μ17 => f_X6_isResolvedNow  μ17 (fun r18 μ19 => f_X6_more r16 r18 μ19 (fun r20 μ21 => f_X6_findResolved  μ21 (fun r22 μ23 => G142 r20 r22 0 μ23))))))))))) ∧ (¬ (μ.1 1 (34 : Int32).toNatClampNeg) ≤ b3 → (f_X6_count b3 μ (fun r24 μ25 => f_X6_more b1 r24 μ25 (fun r26 μ27 => f_X6_reachNow b3 μ27 (fun r28 μ29 => f_X6_more r26 r28 μ29 (fun r30 μ31 => ∀ y32 : Int32, y32 = b3 + 1 → G50 r30 b3 y32 μ31)))))))) → G16 b1 b3 μ) →
  (∀ (b1 : Int64) (b3 : Int32) (b4 : Int32) (μ : Mem), ((b3 ≤ b4 → (f_X6_effects  μ (fun r34 μ35 => f_X6_moreApart b1 r34 μ35 (fun r36 μ37 => f_X6_findResolvedMachine  μ37 (fun μ39 => G183 r36 0 μ39))))) ∧ (¬ b3 ≤ b4 → (vp_in b4 6 ∧ (f_X6_more b1 (μ.1 15 (b4 : Int32).toNatClampNeg) μ (fun r41 μ42 => ∀ y43 : Int32, y43 = b4 + 1 → G142 r41 b3 y43 μ42))))) → G142 b1 b3 b4 μ) →
  (∀ (b1 : Int64) (b3 : Int32) (b4 : Int32) (μ : Mem), (vp_in 34 239 ∧ (((μ.1 1 (34 : Int32).toNatClampNeg) ≤ b4 → (∀ y46 : Int32, y46 = b3 + 1 → G16 b1 y46 μ)) ∧ (¬ (μ.1 1 (34 : Int32).toNatClampNeg) ≤ b4 → (f_X6_findWitness b3 b4 μ (fun r47 μ48 => (r47 ≤ 0 → (G83 b3 b4 r47 0 b1 μ48)) ∧ (¬ r47 ≤ 0 → (G83 b3 b4 r47 1 b1 μ48))))))) → G50 b1 b3 b4 μ) →
  (∀ (b1 : Int64) (b4 : Int32) (μ : Mem), (((μ.1 0 4) ≤ b4 → (K b1 μ)) ∧ (¬ (μ.1 0 4) ≤ b4 → (f_X6_answerOf b4 μ (fun r51 μ52 => f_X6_more b1 r51 μ52 (fun r53 μ54 => ∀ y55 : Int32, y55 = b4 + 1 → G183 r53 y55 μ54))))) → G183 b1 b4 μ) →
  (∀ (b3 : Int32) (b4 : Int32) (b5 : Int32) (z0 : Int32) (z1 : Int64) (μ : Mem), (f_X6_more z1 z0 μ (fun r56 μ57 => f_X6_moreApart r56 b5 μ57 (fun r58 μ59 => ∀ y60 : Int32, y60 = b4 + 1 → G50 r58 b3 y60 μ59))) → G83 b3 b4 b5 z0 z1 μ) →
  (vp_in 34 239 ∧ (f_X6_more 83 (μ.1 1 (34 : Int32).toNatClampNeg) μ (fun r2 μ3 => G16 r2 0 μ3)))
