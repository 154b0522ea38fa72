def fJ6_bitCount_0f7a4 (v0 : Int) : Int :=
  sq (qand (wr ((wr ((qand (wr (v0 - (qand (qushr v0 1) 1431655765))) 858993459) + (qand (qushr (wr (v0 - (qand (qushr v0 1) 1431655765))) 2) 858993459))) + (qushr (wr ((qand (wr (v0 - (qand (qushr v0 1) 1431655765))) 858993459) + (qand (qushr (wr (v0 - (qand (qushr v0 1) 1431655765))) 2) 858993459))) 4))) 252645135) (fun x1 => qand (wr ((wr (x1 + (qushr x1 8))) + (qushr (wr (x1 + (qushr x1 8))) 16))) 63)
def lJ7_fill_53178_5 : Nat → Hp → Nat → Nat → Int → Int → Int → Option (Int × Hp)
  | 0, _, _, _, _, _, _ => none
  | n + 1, σ, s0, j0, v1, v2, v3 =>
    if v3 ≤ v2 then some (0, σ) else gd ((0 : Int) ≤ v2 ∧ v2 < (alen s0 : Int)) (sq (hup σ s0 j0 v2.toNat v1) (fun σ4 => lJ7_fill_53178_5 n σ4 s0 j0 v1 (wr (v2 + 1)) v3))
theorem lJ7_fill_53178_5_e0 (n : Nat) (σ : Hp) (s0 : Nat) (j0 : Nat) (v1 : Int) (v2 : Int) (v3 : Int) : lJ7_fill_53178_5 (n + 1) σ s0 j0 v1 v2 v3 =
    if v3 ≤ v2 then some (0, σ) else gd ((0 : Int) ≤ v2 ∧ v2 < (alen s0 : Int)) (sq (hup σ s0 j0 v2.toNat v1) (fun σ4 => lJ7_fill_53178_5 n σ4 s0 j0 v1 (wr (v2 + 1)) v3)) := rfl
def fJ7_fill_53178 (σ : Hp) (s0 : Nat) (j0 : Nat) (v1 : Int) : Option (Int × Hp) :=
  gd (0 < alen s0) (lJ7_fill_53178_5 FU σ s0 j0 v1 0 (alen s0 : Int))
def lX6_isOfKind_4 : Nat → Hp → Int → Int → Int → Option (Int × Hp)
  | 0, _, _, _, _ => none
  | n + 1, σ, v1, v2, v3 =>
    if 6 ≤ v3 then some (0, σ) else if v2 < 0 then some (0, σ) else if v2 = v1 then some (1, σ) else gd ((0 : Int) ≤ v2 ∧ v2 < 6) (lX6_isOfKind_4 n σ v1 (isToo v2.toNat) (wr (v3 + 1)))
theorem lX6_isOfKind_4_e0 (n : Nat) (σ : Hp) (v1 : Int) (v2 : Int) (v3 : Int) : lX6_isOfKind_4 (n + 1) σ v1 v2 v3 =
    if 6 ≤ v3 then some (0, σ) else if v2 < 0 then some (0, σ) else if v2 = v1 then some (1, σ) else gd ((0 : Int) ≤ v2 ∧ v2 < 6) (lX6_isOfKind_4 n σ v1 (isToo v2.toNat) (wr (v3 + 1))) := rfl
def fX6_isOfKind (σ : Hp) (v0 : Int) (v1 : Int) : Option (Int × Hp) :=
  lX6_isOfKind_4 FU σ v1 v0 0
def fX0_note (σ : Hp) (v1 : Int) : Option (Int × Hp) :=
  if 16 ≤ σ 0 0 1 then some (0, σ) else gd ((0 : Int) ≤ σ 0 0 1 ∧ σ 0 0 1 < 16) (sq (hup σ 8 0 (σ 0 0 1).toNat v1) (fun σ3 => sq (hup σ3 0 0 1 (wr ((σ3 0 0 1) + 1))) (fun σ6 => some (0, σ6))))
def jX0_markOfBeech_32 (σ : Hp) (j1 : Nat) (v2 : Int) (v3 : Int) : Option (Int × Hp) :=
  cl (fX0_note σ 21) (fun _ σ15 => cl (fX0_note σ15 20) (fun _ σ20 => gd ((0 : Int) ≤ v2 ∧ v2 < 4) (if v3 = 2 then some (wr (2 * (wr (v2 + (σ20 14 j1 v2.toNat)))), σ20) else if v3 = 3 then some (wr ((wr (v2 + (σ20 14 j1 v2.toNat))) - 1000), σ20) else some (wr (v2 + (σ20 14 j1 v2.toNat)), σ20))))
def fX0_markOfBeech (σ : Hp) (j1 : Nat) (v2 : Int) : Option (Int × Hp) :=
  gd ((0 : Int) ≤ v2 ∧ v2 < 4) (if σ 13 j1 v2.toNat = 2 then cl (fX0_note σ 24) (fun _ σ10 => jX0_markOfBeech_32 σ10 j1 v2 (σ 13 j1 v2.toNat)) else if σ 13 j1 v2.toNat = 3 then cl (fX0_note σ 22) (fun _ σ5 => jX0_markOfBeech_32 σ5 j1 v2 (σ 13 j1 v2.toNat)) else jX0_markOfBeech_32 σ j1 v2 (σ 13 j1 v2.toNat))
def jX0_sizeOfBeech_26 (σ : Hp) (j1 : Nat) (v2 : Int) (v3 : Int) : Option (Int × Hp) :=
  cl (fX0_note σ 11) (fun _ σ10 => cl (fX0_note σ10 10) (fun _ σ15 => gd ((0 : Int) ≤ v2 ∧ v2 < 4) (cl (fX0_markOfBeech σ15 j1 v2) (fun r20 σ21 => if v3 = 0 then some (wr ((σ15 15 j1 v2.toNat) + r20), σ21) else some (wr (-(wr ((σ15 15 j1 v2.toNat) + r20))), σ21)))))
def jX0_sizeOfBeech_15 (σ : Hp) (j1 : Nat) (v2 : Int) (w0 : Int) : Option (Int × Hp) :=
  if w0 = 0 then jX0_sizeOfBeech_26 σ j1 v2 w0 else cl (fX0_note σ 12) (fun _ σ5 => jX0_sizeOfBeech_26 σ5 j1 v2 w0)
def fX0_sizeOfBeech (σ : Hp) (j1 : Nat) (v2 : Int) : Option (Int × Hp) :=
  gd ((0 : Int) ≤ v2 ∧ v2 < 4) (if σ 13 j1 v2.toNat = 2 then jX0_sizeOfBeech_15 σ j1 v2 1 else jX0_sizeOfBeech_15 σ j1 v2 0)
def jX0_sizeOfPine_26 (σ : Hp) (j1 : Nat) (v2 : Int) (v3 : Int) : Option (Int × Hp) :=
  cl (fX0_note σ 13) (fun _ σ10 => cl (fX0_note σ10 10) (fun _ σ15 => gd ((0 : Int) ≤ v2 ∧ v2 < 4) (if v3 = 0 then some (wr ((σ15 15 j1 v2.toNat) - 100), σ15) else some (wr (2 * (wr ((σ15 15 j1 v2.toNat) - 100))), σ15))))
def jX0_sizeOfPine_15 (σ : Hp) (j1 : Nat) (v2 : Int) (w0 : Int) : Option (Int × Hp) :=
  if w0 = 0 then jX0_sizeOfPine_26 σ j1 v2 w0 else cl (fX0_note σ 14) (fun _ σ5 => jX0_sizeOfPine_26 σ5 j1 v2 w0)
def fX0_sizeOfPine (σ : Hp) (j1 : Nat) (v2 : Int) : Option (Int × Hp) :=
  gd ((0 : Int) ≤ v2 ∧ v2 < 4) (if σ 13 j1 v2.toNat = 5 then jX0_sizeOfPine_15 σ j1 v2 1 else jX0_sizeOfPine_15 σ j1 v2 0)
def fX0_sizeOf (σ : Hp) (j1 : Nat) (v2 : Int) : Option (Int × Hp) :=
  gd ((0 : Int) ≤ v2 ∧ v2 < 4) (cl (fX6_isOfKind σ (σ 13 j1 v2.toNat) 1) (fun r2 σ3 => if r2 = 0 then cl (fX0_sizeOfPine σ3 j1 v2) (fun r8 σ9 => some (r8, σ9)) else cl (fX0_sizeOfBeech σ3 j1 v2) (fun r13 σ14 => some (r13, σ14))))
def fX0_markOf (σ : Hp) (j1 : Nat) (v2 : Int) : Option (Int × Hp) :=
  gd ((0 : Int) ≤ v2 ∧ v2 < 4) (cl (fX6_isOfKind σ (σ 13 j1 v2.toNat) 1) (fun r2 σ3 => if r2 = 0 then cl (fX0_note σ3 23) (fun _ σ9 => cl (fX0_note σ9 20) (fun _ σ14 => cl (fX0_sizeOfPine σ14 j1 v2) (fun r18 σ19 => some (wr (v2 - r18), σ19)))) else cl (fX0_markOfBeech σ3 j1 v2) (fun r23 σ24 => some (r23, σ24))))
def fX5_become (σ : Hp) (j0 : Nat) (j1 : Nat) : Option (Int × Hp) :=
  gd (σ 5 j1 7 = 0 ∨ σ 5 j1 7 = 1) (sq (hup σ 5 j0 7 (σ 5 j1 7)) (fun σ2 => sq (hup σ2 5 j0 8 (σ2 5 j1 8)) (fun σ5 => sq (hup σ5 5 j0 9 (σ5 5 j1 9)) (fun σ8 => sq (hup σ8 5 j0 10 (σ8 5 j1 10)) (fun σ11 => sq (hup σ11 5 j0 11 (σ11 5 j1 11)) (fun σ14 => sq (hcp σ14 13 j1 0 13 j0 0 4) (fun σ17 => sq (hcp σ17 14 j1 0 14 j0 0 4) (fun σ20 => sq (hcp σ20 15 j1 0 15 j0 0 4) (fun σ23 => sq (hcp σ23 16 j1 0 16 j0 0 8) (fun σ26 => sq (hcp σ26 17 j1 0 17 j0 0 8) (fun σ29 => sq (hcp σ29 18 j1 0 18 j0 0 8) (fun σ32 => sq (hcp σ32 19 j1 0 19 j0 0 8) (fun σ35 => some (0, σ35))))))))))))))
def fX1_keep (σ : Hp) (j1 : Nat) : Option (Int × Hp) :=
  gd (0 ≤ σ 1 0 1 ∧ σ 1 0 1 < 24) (cl (fX5_become σ (4 + (σ 1 0 1).toNat) j1) (fun _ σ4 => sq (hup σ4 1 0 1 (qrem (wr ((σ4 1 0 1) + 1)) 24)) (fun σ8 => sq (hup σ8 1 0 2 (qmin (wr ((σ8 1 0 2) + 1)) 24)) (fun σ11 => some (0, σ11)))))
def fX1_bringBack (σ : Hp) (j1 : Nat) : Option (Int × Hp) :=
  if σ 1 0 2 ≤ 0 then some (0, σ) else sq (hup σ 1 0 2 (wr ((σ 1 0 2) - 1))) (fun σ2 => sq (hup σ2 1 0 1 (qrem (wr ((wr ((σ2 1 0 1) + 24)) - 1)) 24)) (fun σ5 => gd (0 ≤ σ5 1 0 1 ∧ σ5 1 0 1 < 24) (cl (fX5_become σ5 j1 (4 + (σ5 1 0 1).toNat)) (fun _ σ11 => some (0, σ11)))))
def fX1_forget (σ : Hp) : Option (Int × Hp) :=
  sq (hup σ 1 0 2 0) (fun σ1 => some (0, σ1))
def fX5_bothReadable (σ : Hp) (j0 : Nat) (v1 : Int) (v2 : Int) : Option (Int × Hp) :=
  gd ((0 : Int) ≤ v1 ∧ v1 < 8) (gd ((0 : Int) ≤ v2 ∧ v2 < 8) (if σ 16 j0 v1.toNat = σ 16 j0 v2.toNat then gd ((0 : Int) ≤ v1 ∧ v1 < 8) (if σ 19 j0 v1.toNat ≤ 0 then some (0, σ) else gd ((0 : Int) ≤ v2 ∧ v2 < 8) (if σ 19 j0 v2.toNat ≤ 0 then some (0, σ) else some (1, σ))) else some (0, σ)))
def fX5_placesApart (σ : Hp) (j0 : Nat) (v1 : Int) (v2 : Int) : Option (Int × Hp) :=
  gd ((0 : Int) ≤ v1 ∧ v1 < 8) (gd ((0 : Int) ≤ v2 ∧ v2 < 8) (some (qmin (qabs (wr ((σ 18 j0 v1.toNat) - (σ 18 j0 v2.toNat)))) (wr (60 - (qabs (wr ((σ 18 j0 v1.toNat) - (σ 18 j0 v2.toNat)))))), σ)))
def fX5_distance (σ : Hp) (j0 : Nat) (v1 : Int) (v2 : Int) : Option (Int × Hp) :=
  cl (fX5_placesApart σ j0 v1 v2) (fun r1 σ2 => gd ((0 : Int) ≤ v1 ∧ v1 < 8) (gd ((0 : Int) ≤ σ2 16 j0 v1.toNat ∧ σ2 16 j0 v1.toNat < 4) (some (qdiv (wr (r1 * (σ2 14 j0 (σ2 16 j0 v1.toNat).toNat))) 60, σ2))))
def fX5_readAsOne (σ : Hp) (j0 : Nat) (v1 : Int) (v2 : Int) : Option (Int × Hp) :=
  cl (fX5_bothReadable σ j0 v1 v2) (fun r1 σ2 => if r1 = 0 then some (0, σ2) else cl (fX5_distance σ2 j0 v1 v2) (fun r7 σ8 => if σ8 5 j0 8 < r7 then some (0, σ8) else some (1, σ8)))
def lX2_lookAt_10 : Nat → Nat → Hp → Nat → Int → Int → Option (Int × Hp)
  | 0, _, _, _, _, _ => none
  | n + 1, 0, σ, j1, v2, v3 =>
    if σ 5 j1 11 ≤ v2 then some (0, σ) else lX2_lookAt_10 n 1 σ j1 v2 0
  | n + 1, _, σ, j1, v2, v3 =>
    if σ 5 j1 11 ≤ v3 then lX2_lookAt_10 n 0 σ j1 (wr (v2 + 1)) 0 else if v2 = v3 then lX2_lookAt_10 n 1 σ j1 v2 (wr (v3 + 1)) else cl (fX5_readAsOne σ j1 v2 v3) (fun r9 σ10 => if r9 = 0 then lX2_lookAt_10 n 1 σ10 j1 v2 (wr (v3 + 1)) else gd ((0 : Int) ≤ v2 ∧ v2 < 8) (gd ((0 : Int) ≤ v2 ∧ v2 < 8) (sq (hup σ10 10 0 v2.toNat (qor (σ10 10 0 v2.toNat) (qshl 1 v3))) (fun σ17 => lX2_lookAt_10 n 1 σ17 j1 v2 (wr (v3 + 1))))))
theorem lX2_lookAt_10_e0 (n : Nat) (σ : Hp) (j1 : Nat) (v2 : Int) (v3 : Int) : lX2_lookAt_10 (n + 1) 0 σ j1 v2 v3 =
    if σ 5 j1 11 ≤ v2 then some (0, σ) else lX2_lookAt_10 n 1 σ j1 v2 0 := rfl
theorem lX2_lookAt_10_e1 (n : Nat) (σ : Hp) (j1 : Nat) (v2 : Int) (v3 : Int) : lX2_lookAt_10 (n + 1) 1 σ j1 v2 v3 =
    if σ 5 j1 11 ≤ v3 then lX2_lookAt_10 n 0 σ j1 (wr (v2 + 1)) 0 else if v2 = v3 then lX2_lookAt_10 n 1 σ j1 v2 (wr (v3 + 1)) else cl (fX5_readAsOne σ j1 v2 v3) (fun r9 σ10 => if r9 = 0 then lX2_lookAt_10 n 1 σ10 j1 v2 (wr (v3 + 1)) else gd ((0 : Int) ≤ v2 ∧ v2 < 8) (gd ((0 : Int) ≤ v2 ∧ v2 < 8) (sq (hup σ10 10 0 v2.toNat (qor (σ10 10 0 v2.toNat) (qshl 1 v3))) (fun σ17 => lX2_lookAt_10 n 1 σ17 j1 v2 (wr (v3 + 1)))))) := rfl
def fX2_lookAt (σ : Hp) (j1 : Nat) : Option (Int × Hp) :=
  cl (fJ7_fill_53178 σ 10 0 0) (fun _ σ2 => lX2_lookAt_10 FU 0 σ2 j1 0 0)
def fX6_isIn (v0 : Int) (v1 : Int) : Int :=
  if qand (qshr v0 v1) 1 = 0 then 0 else 1
theorem zX6_isIn (v0 : Int) (v1 : Int) : fX6_isIn v0 v1 = 0 ∨ fX6_isIn v0 v1 = 1 := by
  unfold fX6_isIn
  repeat' split
  all_goals first | exact Or.inl rfl | exact Or.inr rfl | apply Or.inl
def lX2_nextTo_4 : Nat → Hp → Int → Int → Int → Option (Int × Hp)
  | 0, _, _, _, _ => none
  | n + 1, σ, v1, v2, v3 =>
    if 8 ≤ v3 then some (v2, σ) else if fX6_isIn v1 v3 = 0 then lX2_nextTo_4 n σ v1 (qor v2 0) (wr (v3 + 1)) else gd ((0 : Int) ≤ v3 ∧ v3 < 8) (lX2_nextTo_4 n σ v1 (qor v2 (σ 10 0 v3.toNat)) (wr (v3 + 1)))
theorem lX2_nextTo_4_e0 (n : Nat) (σ : Hp) (v1 : Int) (v2 : Int) (v3 : Int) : lX2_nextTo_4 (n + 1) σ v1 v2 v3 =
    if 8 ≤ v3 then some (v2, σ) else if fX6_isIn v1 v3 = 0 then lX2_nextTo_4 n σ v1 (qor v2 0) (wr (v3 + 1)) else gd ((0 : Int) ≤ v3 ∧ v3 < 8) (lX2_nextTo_4 n σ v1 (qor v2 (σ 10 0 v3.toNat)) (wr (v3 + 1))) := rfl
def fX2_nextTo (σ : Hp) (v1 : Int) : Option (Int × Hp) :=
  lX2_nextTo_4 FU σ v1 0 0
def lX2_reached_10 : Nat → Hp → Int → Int → Int → Int → Option (Int × Hp)
  | 0, _, _, _, _, _ => none
  | n + 1, σ, v2, v3, v4, v5 =>
    if 8 ≤ v5 then some (v3, σ) else if v4 = 0 then some (v3, σ) else cl (fX2_nextTo σ v4) (fun r3 σ4 => lX2_reached_10 n σ4 v2 (qor v3 (qand (qand r3 v2) (qxor v3 (-1)))) (qand (qand r3 v2) (qxor v3 (-1))) (wr (v5 + 1)))
theorem lX2_reached_10_e0 (n : Nat) (σ : Hp) (v2 : Int) (v3 : Int) (v4 : Int) (v5 : Int) : lX2_reached_10 (n + 1) σ v2 v3 v4 v5 =
    if 8 ≤ v5 then some (v3, σ) else if v4 = 0 then some (v3, σ) else cl (fX2_nextTo σ v4) (fun r3 σ4 => lX2_reached_10 n σ4 v2 (qor v3 (qand (qand r3 v2) (qxor v3 (-1)))) (qand (qand r3 v2) (qxor v3 (-1))) (wr (v5 + 1))) := rfl
def fX2_reached (σ : Hp) (v1 : Int) (v2 : Int) : Option (Int × Hp) :=
  lX2_reached_10 FU σ v2 (qshl 1 v1) (qshl 1 v1) 0
def fX3_begin (σ : Hp) (j0 : Nat) (v1 : Int) (v2 : Int) : Option (Int × Hp) :=
  sq (hup σ 3 j0 1 1) (fun σ1 => sq (hup σ1 3 j0 2 v1) (fun σ4 => sq (hup σ4 3 j0 3 v2) (fun σ7 => cl (fJ7_fill_53178 σ7 11 j0 0) (fun _ σ11 => some (0, σ11)))))
def fX3_narrowed (σ : Hp) (j0 : Nat) (v1 : Int) : Int :=
  if σ 3 j0 2 = 0 then qi8 v1 else if σ 3 j0 2 = 1 then qi16 v1 else v1
def fX3_spans (σ : Hp) (j0 : Nat) (v1 : Int) (v2 : Int) : Int :=
  if v2 < 0 then 0 else if v1 < 0 then 0 else if wr ((σ 3 j0 3) - v2) < v1 then 0 else 1
theorem zX3_spans (σ : Hp) (j0 : Nat) (v1 : Int) (v2 : Int) : fX3_spans σ j0 v1 v2 = 0 ∨ fX3_spans σ j0 v1 v2 = 1 := by
  unfold fX3_spans
  repeat' split
  all_goals first | exact Or.inl rfl | exact Or.inr rfl | apply Or.inl
def fX4_takes (σ : Hp) (v1 : Int) : Option (Int × Hp) :=
  if σ 4 0 1 < 140 then gd ((0 : Int) ≤ σ 4 0 1 ∧ σ 4 0 1 < 140) (sq (hup σ 12 0 (σ 4 0 1).toNat v1) (fun σ3 => sq (hup σ3 4 0 1 (wr ((σ3 4 0 1) + 1))) (fun σ6 => some (1, σ6)))) else some (0, σ)
def fX4_here (σ : Hp) : Option (Int × Hp) :=
  if σ 4 0 1 ≤ σ 4 0 4 then some ((-1), σ) else gd ((0 : Int) ≤ σ 4 0 4 ∧ σ 4 0 4 < 140) (some (σ 12 0 (σ 4 0 4).toNat, σ))
def fX4_fails (σ : Hp) (v1 : Int) (v2 : Int) : Option (Int × Hp) :=
  sq (hup σ 4 0 2 v1) (fun σ1 => sq (hup σ1 4 0 3 v2) (fun σ4 => some (0, σ4)))
def fX4_reads (σ : Hp) (v1 : Int) : Option (Int × Hp) :=
  cl (fX4_here σ) (fun r1 σ2 => if r1 = v1 then sq (hup σ2 4 0 4 (wr ((σ2 4 0 4) + 1))) (fun σ7 => some (1, σ7)) else cl (fX4_fails σ2 1 (σ2 4 0 4)) (fun r10 σ11 => gd (r10 = 0 ∨ r10 = 1) (some (r10, σ11))))
def fX4_isFigure (v0 : Int) : Int :=
  if v0 < 48 then 0 else if 57 < v0 then 0 else 1
theorem zX4_isFigure (v0 : Int) : fX4_isFigure v0 = 0 ∨ fX4_isFigure v0 = 1 := by
  unfold fX4_isFigure
  repeat' split
  all_goals first | exact Or.inl rfl | exact Or.inr rfl | apply Or.inl
def jX4_numberRead_73 (σ : Hp) (v1 : Int) (v2 : Int) (v3 : Int) (v4 : Int) (v5 : Int) : Option (Int × Hp) :=
  if v5 = v3 then cl (fX4_fails σ 1 v3) (fun r8 σ9 => some ((-1), σ9)) else if wr (v5 - v3) ≤ 2 then if v4 < v1 then cl (fX4_fails σ 2 v3) (fun r15 σ16 => some ((-1), σ16)) else if v4 ≤ v2 then sq (hup σ 4 0 4 v5) (fun σ21 => some (v4, σ21)) else cl (fX4_fails σ 2 v3) (fun r24 σ25 => some ((-1), σ25)) else cl (fX4_fails σ 1 v3) (fun r29 σ30 => some ((-1), σ30))
def lX4_numberRead_14 : Nat → Hp → Int → Int → Int → Int → Int → Option (Int × Hp)
  | 0, _, _, _, _, _, _ => none
  | n + 1, σ, v1, v2, v3, v4, v5 =>
    if σ 4 0 1 ≤ v5 then jX4_numberRead_73 σ v1 v2 v3 v4 v5 else gd ((0 : Int) ≤ v5 ∧ v5 < 140) (if fX4_isFigure (σ 12 0 v5.toNat) = 0 then jX4_numberRead_73 σ v1 v2 v3 v4 v5 else if 2 ≤ wr (v5 - v3) then lX4_numberRead_14 n σ v1 v2 v3 v4 (wr (v5 + 1)) else gd ((0 : Int) ≤ v5 ∧ v5 < 140) (lX4_numberRead_14 n σ v1 v2 v3 (wr ((wr ((wr (10 * v4)) + (σ 12 0 v5.toNat))) - 48)) (wr (v5 + 1))))
theorem lX4_numberRead_14_e0 (n : Nat) (σ : Hp) (v1 : Int) (v2 : Int) (v3 : Int) (v4 : Int) (v5 : Int) : lX4_numberRead_14 (n + 1) σ v1 v2 v3 v4 v5 =
    if σ 4 0 1 ≤ v5 then jX4_numberRead_73 σ v1 v2 v3 v4 v5 else gd ((0 : Int) ≤ v5 ∧ v5 < 140) (if fX4_isFigure (σ 12 0 v5.toNat) = 0 then jX4_numberRead_73 σ v1 v2 v3 v4 v5 else if 2 ≤ wr (v5 - v3) then lX4_numberRead_14 n σ v1 v2 v3 v4 (wr (v5 + 1)) else gd ((0 : Int) ≤ v5 ∧ v5 < 140) (lX4_numberRead_14 n σ v1 v2 v3 (wr ((wr ((wr (10 * v4)) + (σ 12 0 v5.toNat))) - 48)) (wr (v5 + 1)))) := rfl
def fX4_numberRead (σ : Hp) (v1 : Int) (v2 : Int) : Option (Int × Hp) :=
  lX4_numberRead_14 FU σ v1 v2 (σ 4 0 4) 0 (σ 4 0 4)
def fX5_begin (σ : Hp) (j0 : Nat) (v1 : Int) : Option (Int × Hp) :=
  sq (hup σ 5 j0 7 1) (fun σ1 => sq (hup σ1 5 j0 8 v1) (fun σ4 => sq (hup σ4 5 j0 9 0) (fun σ7 => sq (hup σ7 5 j0 10 0) (fun σ10 => sq (hup σ10 5 j0 11 0) (fun σ13 => some (0, σ13))))))
def fX4_readsLaw (σ : Hp) (j1 : Nat) : Option (Int × Hp) :=
  cl (fX4_reads σ 119) (fun r1 σ2 => if r1 = 0 then some (0, σ2) else cl (fX4_numberRead σ2 2 9) (fun r7 σ8 => if r7 < 0 then some (0, σ8) else cl (fX4_reads σ8 59) (fun r13 σ14 => if r13 = 0 then some (0, σ14) else cl (fX5_begin σ14 j1 r7) (fun _ σ20 => some (1, σ20)))))
def fX4_kindHere (σ : Hp) : Option (Int × Hp) :=
  cl (fX4_here σ) (fun r1 σ2 => if r1 = 98 then some (1, σ2) else if r1 = 100 then some (5, σ2) else if r1 = 111 then some (2, σ2) else if r1 = 112 then some (4, σ2) else if r1 = 121 then some (3, σ2) else some (0, σ2))
def fX5_addTree (σ : Hp) (j0 : Nat) (v1 : Int) (v2 : Int) (v3 : Int) : Option (Int × Hp) :=
  if 4 ≤ σ 5 j0 10 then some (0, σ) else gd ((0 : Int) ≤ σ 5 j0 10 ∧ σ 5 j0 10 < 4) (sq (hup σ 13 j0 (σ 5 j0 10).toNat v1) (fun σ3 => gd ((0 : Int) ≤ σ3 5 j0 10 ∧ σ3 5 j0 10 < 4) (sq (hup σ3 14 j0 (σ3 5 j0 10).toNat v2) (fun σ7 => gd ((0 : Int) ≤ σ7 5 j0 10 ∧ σ7 5 j0 10 < 4) (sq (hup σ7 15 j0 (σ7 5 j0 10).toNat v3) (fun σ11 => sq (hup σ11 5 j0 10 (wr ((σ11 5 j0 10) + 1))) (fun σ14 => some (0, σ14))))))))
def fX4_readsTree (σ : Hp) (j1 : Nat) : Option (Int × Hp) :=
  if σ 5 j1 10 < 4 then cl (fX4_kindHere σ) (fun r2 σ3 => sq (hup σ3 4 0 4 (wr ((σ3 4 0 4) + 1))) (fun σ7 => cl (fX4_numberRead σ7 10 90) (fun r10 σ11 => if r10 < 0 then some (0, σ11) else cl (fX4_reads σ11 44) (fun r16 σ17 => if r16 = 0 then some (0, σ17) else cl (fX4_numberRead σ17 0 9) (fun r22 σ23 => if r22 < 0 then some (0, σ23) else cl (fX4_reads σ23 59) (fun r28 σ29 => if r28 = 0 then some (0, σ29) else cl (fX5_addTree σ29 j1 r2 r10 r22) (fun _ σ35 => some (1, σ35)))))))) else cl (fX4_fails σ 3 (σ 4 0 4)) (fun r39 σ40 => gd (r39 = 0 ∨ r39 = 1) (some (r39, σ40)))
def lX5_hasCutAt_2 : Nat → Hp → Nat → Int → Int → Int → Option (Int × Hp)
  | 0, _, _, _, _, _ => none
  | n + 1, σ, j0, v1, v2, v3 =>
    if σ 5 j0 11 ≤ v3 then some (0, σ) else gd ((0 : Int) ≤ v3 ∧ v3 < 8) (if σ 16 j0 v3.toNat = v1 then gd ((0 : Int) ≤ v3 ∧ v3 < 8) (if σ 18 j0 v3.toNat = v2 then some (1, σ) else lX5_hasCutAt_2 n σ j0 v1 v2 (wr (v3 + 1))) else lX5_hasCutAt_2 n σ j0 v1 v2 (wr (v3 + 1)))
theorem lX5_hasCutAt_2_e0 (n : Nat) (σ : Hp) (j0 : Nat) (v1 : Int) (v2 : Int) (v3 : Int) : lX5_hasCutAt_2 (n + 1) σ j0 v1 v2 v3 =
    if σ 5 j0 11 ≤ v3 then some (0, σ) else gd ((0 : Int) ≤ v3 ∧ v3 < 8) (if σ 16 j0 v3.toNat = v1 then gd ((0 : Int) ≤ v3 ∧ v3 < 8) (if σ 18 j0 v3.toNat = v2 then some (1, σ) else lX5_hasCutAt_2 n σ j0 v1 v2 (wr (v3 + 1))) else lX5_hasCutAt_2 n σ j0 v1 v2 (wr (v3 + 1))) := rfl
def fX5_hasCutAt (σ : Hp) (j0 : Nat) (v1 : Int) (v2 : Int) : Option (Int × Hp) :=
  lX5_hasCutAt_2 FU σ j0 v1 v2 0
def fX5_addCut (σ : Hp) (j0 : Nat) (v1 : Int) (v2 : Int) (v3 : Int) (v4 : Int) : Option (Int × Hp) :=
  if 8 ≤ σ 5 j0 11 then some (0, σ) else gd ((0 : Int) ≤ σ 5 j0 11 ∧ σ 5 j0 11 < 8) (sq (hup σ 16 j0 (σ 5 j0 11).toNat v1) (fun σ3 => gd ((0 : Int) ≤ σ3 5 j0 11 ∧ σ3 5 j0 11 < 8) (sq (hup σ3 17 j0 (σ3 5 j0 11).toNat v2) (fun σ7 => gd ((0 : Int) ≤ σ7 5 j0 11 ∧ σ7 5 j0 11 < 8) (sq (hup σ7 18 j0 (σ7 5 j0 11).toNat v3) (fun σ11 => gd ((0 : Int) ≤ σ11 5 j0 11 ∧ σ11 5 j0 11 < 8) (sq (hup σ11 19 j0 (σ11 5 j0 11).toNat v4) (fun σ15 => sq (hup σ15 5 j0 11 (wr ((σ15 5 j0 11) + 1))) (fun σ18 => some (0, σ18))))))))))
def fX4_readsCut (σ : Hp) (j1 : Nat) : Option (Int × Hp) :=
  if σ 5 j1 11 < 8 then sq (hup σ 4 0 4 (wr ((σ 4 0 4) + 1))) (fun σ2 => cl (fX4_numberRead σ2 0 (wr ((σ2 5 j1 10) - 1))) (fun r5 σ6 => if r5 < 0 then some (0, σ6) else cl (fX4_reads σ6 44) (fun r11 σ12 => if r11 = 0 then some (0, σ12) else cl (fX4_numberRead σ12 0 25) (fun r17 σ18 => if r17 < 0 then some (0, σ18) else cl (fX4_reads σ18 44) (fun r23 σ24 => if r23 = 0 then some (0, σ24) else cl (fX4_numberRead σ24 0 59) (fun r29 σ30 => if 0 ≤ r29 then cl (fX5_hasCutAt σ30 j1 r5 r29) (fun r35 σ36 => if r35 = 0 then cl (fX4_reads σ36 44) (fun r41 σ42 => if r41 = 0 then some (0, σ42) else cl (fX4_numberRead σ42 1 20) (fun r47 σ48 => if r47 < 0 then some (0, σ48) else cl (fX4_reads σ48 59) (fun r53 σ54 => if r53 = 0 then some (0, σ54) else cl (fX5_addCut σ54 j1 r5 r17 r29 r47) (fun _ σ60 => some (1, σ60))))) else cl (fX4_fails σ36 2 (σ24 4 0 4)) (fun r64 σ65 => gd (r64 = 0 ∨ r64 = 1) (some (r64, σ65)))) else some (0, σ30))))))) else cl (fX4_fails σ 3 (σ 4 0 4)) (fun r70 σ71 => gd (r70 = 0 ∨ r70 = 1) (some (r70, σ71)))
def jX4_tells_78 (σ : Hp) (j1 : Nat) : Option (Int × Hp) :=
  if σ 4 0 4 = σ 4 0 1 then some (1, σ) else cl (fX4_fails σ 1 (σ 4 0 4)) (fun r37 σ38 => if r37 = 0 then some (0, σ38) else some (1, σ38))
def lX4_tells_47 : Nat → Hp → Nat → Int → Option (Int × Hp)
  | 0, _, _, _ => none
  | n + 1, σ, j1, v2 =>
    if 8 < v2 then jX4_tells_78 σ j1 else cl (fX4_here σ) (fun r24 σ25 => if r24 = 99 then cl (fX4_readsCut σ25 j1) (fun r30 σ31 => if r30 = 0 then some (0, σ31) else lX4_tells_47 n σ31 j1 (wr (v2 + 1))) else jX4_tells_78 σ25 j1)
theorem lX4_tells_47_e0 (n : Nat) (σ : Hp) (j1 : Nat) (v2 : Int) : lX4_tells_47 (n + 1) σ j1 v2 =
    if 8 < v2 then jX4_tells_78 σ j1 else cl (fX4_here σ) (fun r24 σ25 => if r24 = 99 then cl (fX4_readsCut σ25 j1) (fun r30 σ31 => if r30 = 0 then some (0, σ31) else lX4_tells_47 n σ31 j1 (wr (v2 + 1))) else jX4_tells_78 σ25 j1) := rfl
def lX4_tells_17 : Nat → Hp → Nat → Int → Option (Int × Hp)
  | 0, _, _, _ => none
  | n + 1, σ, j1, v2 =>
    if 4 < v2 then lX4_tells_47 FU σ j1 0 else cl (fX4_kindHere σ) (fun r11 σ12 => if r11 = 0 then lX4_tells_47 FU σ12 j1 0 else cl (fX4_readsTree σ12 j1) (fun r17 σ18 => if r17 = 0 then some (0, σ18) else lX4_tells_17 n σ18 j1 (wr (v2 + 1))))
theorem lX4_tells_17_e0 (n : Nat) (σ : Hp) (j1 : Nat) (v2 : Int) : lX4_tells_17 (n + 1) σ j1 v2 =
    if 4 < v2 then lX4_tells_47 FU σ j1 0 else cl (fX4_kindHere σ) (fun r11 σ12 => if r11 = 0 then lX4_tells_47 FU σ12 j1 0 else cl (fX4_readsTree σ12 j1) (fun r17 σ18 => if r17 = 0 then some (0, σ18) else lX4_tells_17 n σ18 j1 (wr (v2 + 1)))) := rfl
def fX4_tells (σ : Hp) (j1 : Nat) : Option (Int × Hp) :=
  sq (hup σ 4 0 4 0) (fun σ1 => cl (fX4_readsLaw σ1 j1) (fun r4 σ5 => if r4 = 0 then some (0, σ5) else lX4_tells_17 FU σ5 j1 0))
def lX5_removeCut_2 : Nat → Hp → Nat → Int → Option (Int × Hp)
  | 0, _, _, _ => none
  | n + 1, σ, j0, v2 =>
    if wr ((σ 5 j0 11) - 1) ≤ v2 then sq (hup σ 5 j0 11 (wr ((σ 5 j0 11) - 1))) (fun σ2 => some (0, σ2)) else gd ((0 : Int) ≤ wr (v2 + 1) ∧ wr (v2 + 1) < 8) (gd ((0 : Int) ≤ v2 ∧ v2 < 8) (sq (hup σ 16 j0 v2.toNat (σ 16 j0 (wr (v2 + 1)).toNat)) (fun σ7 => gd ((0 : Int) ≤ wr (v2 + 1) ∧ wr (v2 + 1) < 8) (gd ((0 : Int) ≤ v2 ∧ v2 < 8) (sq (hup σ7 17 j0 v2.toNat (σ7 17 j0 (wr (v2 + 1)).toNat)) (fun σ12 => gd ((0 : Int) ≤ wr (v2 + 1) ∧ wr (v2 + 1) < 8) (gd ((0 : Int) ≤ v2 ∧ v2 < 8) (sq (hup σ12 18 j0 v2.toNat (σ12 18 j0 (wr (v2 + 1)).toNat)) (fun σ17 => gd ((0 : Int) ≤ wr (v2 + 1) ∧ wr (v2 + 1) < 8) (gd ((0 : Int) ≤ v2 ∧ v2 < 8) (sq (hup σ17 19 j0 v2.toNat (σ17 19 j0 (wr (v2 + 1)).toNat)) (fun σ22 => lX5_removeCut_2 n σ22 j0 (wr (v2 + 1))))))))))))))
theorem lX5_removeCut_2_e0 (n : Nat) (σ : Hp) (j0 : Nat) (v2 : Int) : lX5_removeCut_2 (n + 1) σ j0 v2 =
    if wr ((σ 5 j0 11) - 1) ≤ v2 then sq (hup σ 5 j0 11 (wr ((σ 5 j0 11) - 1))) (fun σ2 => some (0, σ2)) else gd ((0 : Int) ≤ wr (v2 + 1) ∧ wr (v2 + 1) < 8) (gd ((0 : Int) ≤ v2 ∧ v2 < 8) (sq (hup σ 16 j0 v2.toNat (σ 16 j0 (wr (v2 + 1)).toNat)) (fun σ7 => gd ((0 : Int) ≤ wr (v2 + 1) ∧ wr (v2 + 1) < 8) (gd ((0 : Int) ≤ v2 ∧ v2 < 8) (sq (hup σ7 17 j0 v2.toNat (σ7 17 j0 (wr (v2 + 1)).toNat)) (fun σ12 => gd ((0 : Int) ≤ wr (v2 + 1) ∧ wr (v2 + 1) < 8) (gd ((0 : Int) ≤ v2 ∧ v2 < 8) (sq (hup σ12 18 j0 v2.toNat (σ12 18 j0 (wr (v2 + 1)).toNat)) (fun σ17 => gd ((0 : Int) ≤ wr (v2 + 1) ∧ wr (v2 + 1) < 8) (gd ((0 : Int) ≤ v2 ∧ v2 < 8) (sq (hup σ17 19 j0 v2.toNat (σ17 19 j0 (wr (v2 + 1)).toNat)) (fun σ22 => lX5_removeCut_2 n σ22 j0 (wr (v2 + 1)))))))))))))) := rfl
def fX5_removeCut (σ : Hp) (j0 : Nat) (v1 : Int) : Option (Int × Hp) :=
  lX5_removeCut_2 FU σ j0 v1
def fX6_isBelow (v0 : Int) (v1 : Int) : Int :=
  if v0 < 0 then 0 else if v1 ≤ v0 then 0 else 1
theorem zX6_isBelow (v0 : Int) (v1 : Int) : fX6_isBelow v0 v1 = 0 ∨ fX6_isBelow v0 v1 = 1 := by
  unfold fX6_isBelow
  repeat' split
  all_goals first | exact Or.inl rfl | exact Or.inr rfl | apply Or.inl
def fX5_hasTree (σ : Hp) (j0 : Nat) (v1 : Int) : Int :=
  fX6_isBelow v1 (σ 5 j0 10)
theorem zX5_hasTree (σ : Hp) (j0 : Nat) (v1 : Int) : fX5_hasTree σ j0 v1 = 0 ∨ fX5_hasTree σ j0 v1 = 1 := by
  unfold fX5_hasTree
  repeat' split
  all_goals first | exact Or.inl rfl | exact Or.inr rfl | apply zX6_isBelow
def fX5_hasCut (σ : Hp) (j0 : Nat) (v1 : Int) : Int :=
  fX6_isBelow v1 (σ 5 j0 11)
theorem zX5_hasCut (σ : Hp) (j0 : Nat) (v1 : Int) : fX5_hasCut σ j0 v1 = 0 ∨ fX5_hasCut σ j0 v1 = 1 := by
  unfold fX5_hasCut
  repeat' split
  all_goals first | exact Or.inl rfl | exact Or.inr rfl | apply zX6_isBelow
def fX5_growthByKind (σ : Hp) (j0 : Nat) (v1 : Int) : Option (Int × Hp) :=
  gd ((0 : Int) ≤ v1 ∧ v1 < 4) (gd ((0 : Int) ≤ v1 ∧ v1 < 4) (if σ 13 j0 v1.toNat = 1 then some (wr (1 + (qdiv (σ 15 j0 v1.toNat) 3)), σ) else if σ 13 j0 v1.toNat = 2 then some (qdiv (wr (1 + (qdiv (σ 15 j0 v1.toNat) 3))) 2, σ) else if σ 13 j0 v1.toNat = 3 then if qrem (σ 5 j0 9) 2 = 0 then some (wr ((wr (1 + (qdiv (σ 15 j0 v1.toNat) 3))) + 2), σ) else some (wr (1 + (qdiv (σ 15 j0 v1.toNat) 3)), σ) else if σ 13 j0 v1.toNat = 4 then some (σ 15 j0 v1.toNat, σ) else some (0, σ)))
def fX5_growth (σ : Hp) (j0 : Nat) (v1 : Int) : Option (Int × Hp) :=
  cl (fX5_growthByKind σ j0 v1) (fun r1 σ2 => gd ((0 : Int) ≤ v1 ∧ v1 < 4) (some (qmin r1 (wr (999 - (σ2 14 j0 v1.toNat))), σ2)))
def fX5_closesBy (σ : Hp) (j0 : Nat) (v1 : Int) (v2 : Int) : Int :=
  if v2 = 2 then if v1 < 1 then 0 else if qrem (σ 5 j0 9) 2 = 1 then 1 else 0 else if v1 < 3 then 0 else 1
theorem zX5_closesBy (σ : Hp) (j0 : Nat) (v1 : Int) (v2 : Int) : fX5_closesBy σ j0 v1 v2 = 0 ∨ fX5_closesBy σ j0 v1 v2 = 1 := by
  unfold fX5_closesBy
  repeat' split
  all_goals first | exact Or.inl rfl | exact Or.inr rfl | apply Or.inl
def lX5_closeCutsOf_2 : Nat → Hp → Nat → Int → Int → Option (Int × Hp)
  | 0, _, _, _, _ => none
  | n + 1, σ, j0, v1, v2 =>
    if σ 5 j0 11 ≤ v2 then some (0, σ) else gd ((0 : Int) ≤ v2 ∧ v2 < 8) (if σ 16 j0 v2.toNat = v1 then gd ((0 : Int) ≤ v2 ∧ v2 < 8) (if σ 19 j0 v2.toNat ≤ 0 then lX5_closeCutsOf_2 n σ j0 v1 (wr (v2 + 1)) else gd ((0 : Int) ≤ v2 ∧ v2 < 8) (gd ((0 : Int) ≤ v2 ∧ v2 < 8) (sq (hup σ 19 j0 v2.toNat (wr ((σ 19 j0 v2.toNat) - 1))) (fun σ8 => lX5_closeCutsOf_2 n σ8 j0 v1 (wr (v2 + 1)))))) else lX5_closeCutsOf_2 n σ j0 v1 (wr (v2 + 1)))
theorem lX5_closeCutsOf_2_e0 (n : Nat) (σ : Hp) (j0 : Nat) (v1 : Int) (v2 : Int) : lX5_closeCutsOf_2 (n + 1) σ j0 v1 v2 =
    if σ 5 j0 11 ≤ v2 then some (0, σ) else gd ((0 : Int) ≤ v2 ∧ v2 < 8) (if σ 16 j0 v2.toNat = v1 then gd ((0 : Int) ≤ v2 ∧ v2 < 8) (if σ 19 j0 v2.toNat ≤ 0 then lX5_closeCutsOf_2 n σ j0 v1 (wr (v2 + 1)) else gd ((0 : Int) ≤ v2 ∧ v2 < 8) (gd ((0 : Int) ≤ v2 ∧ v2 < 8) (sq (hup σ 19 j0 v2.toNat (wr ((σ 19 j0 v2.toNat) - 1))) (fun σ8 => lX5_closeCutsOf_2 n σ8 j0 v1 (wr (v2 + 1)))))) else lX5_closeCutsOf_2 n σ j0 v1 (wr (v2 + 1))) := rfl
def fX5_closeCutsOf (σ : Hp) (j0 : Nat) (v1 : Int) : Option (Int × Hp) :=
  lX5_closeCutsOf_2 FU σ j0 v1 0
def lX5_passYear_2 : Nat → Hp → Nat → Int → Option (Int × Hp)
  | 0, _, _, _ => none
  | n + 1, σ, j0, v1 =>
    if σ 5 j0 10 ≤ v1 then sq (hup σ 5 j0 9 (wr ((σ 5 j0 9) + 1))) (fun σ2 => some (0, σ2)) else cl (fX5_growth σ j0 v1) (fun r5 σ6 => gd ((0 : Int) ≤ v1 ∧ v1 < 4) (gd ((0 : Int) ≤ v1 ∧ v1 < 4) (sq (hup σ6 14 j0 v1.toNat (wr ((σ6 14 j0 v1.toNat) + r5))) (fun σ12 => gd ((0 : Int) ≤ v1 ∧ v1 < 4) (if fX5_closesBy σ12 j0 r5 (σ12 13 j0 v1.toNat) = 0 then lX5_passYear_2 n σ12 j0 (wr (v1 + 1)) else cl (fX5_closeCutsOf σ12 j0 v1) (fun _ σ19 => lX5_passYear_2 n σ19 j0 (wr (v1 + 1))))))))
theorem lX5_passYear_2_e0 (n : Nat) (σ : Hp) (j0 : Nat) (v1 : Int) : lX5_passYear_2 (n + 1) σ j0 v1 =
    if σ 5 j0 10 ≤ v1 then sq (hup σ 5 j0 9 (wr ((σ 5 j0 9) + 1))) (fun σ2 => some (0, σ2)) else cl (fX5_growth σ j0 v1) (fun r5 σ6 => gd ((0 : Int) ≤ v1 ∧ v1 < 4) (gd ((0 : Int) ≤ v1 ∧ v1 < 4) (sq (hup σ6 14 j0 v1.toNat (wr ((σ6 14 j0 v1.toNat) + r5))) (fun σ12 => gd ((0 : Int) ≤ v1 ∧ v1 < 4) (if fX5_closesBy σ12 j0 r5 (σ12 13 j0 v1.toNat) = 0 then lX5_passYear_2 n σ12 j0 (wr (v1 + 1)) else cl (fX5_closeCutsOf σ12 j0 v1) (fun _ σ19 => lX5_passYear_2 n σ19 j0 (wr (v1 + 1)))))))) := rfl
def fX5_passYear (σ : Hp) (j0 : Nat) : Option (Int × Hp) :=
  lX5_passYear_2 FU σ j0 0
def lX5_passYears_2 : Nat → Hp → Nat → Int → Int → Option (Int × Hp)
  | 0, _, _, _, _ => none
  | n + 1, σ, j0, v1, v2 =>
    if v1 ≤ v2 then some (0, σ) else cl (fX5_passYear σ j0) (fun _ σ3 => lX5_passYears_2 n σ3 j0 v1 (wr (v2 + 1)))
theorem lX5_passYears_2_e0 (n : Nat) (σ : Hp) (j0 : Nat) (v1 : Int) (v2 : Int) : lX5_passYears_2 (n + 1) σ j0 v1 v2 =
    if v1 ≤ v2 then some (0, σ) else cl (fX5_passYear σ j0) (fun _ σ3 => lX5_passYears_2 n σ3 j0 v1 (wr (v2 + 1))) := rfl
def fX5_passYears (σ : Hp) (j0 : Nat) (v1 : Int) : Option (Int × Hp) :=
  lX5_passYears_2 FU σ j0 v1 0
def lX5_readable_4 : Nat → Hp → Nat → Int → Int → Option (Int × Hp)
  | 0, _, _, _, _ => none
  | n + 1, σ, j0, v1, v2 =>
    if σ 5 j0 11 ≤ v2 then some (v1, σ) else gd ((0 : Int) ≤ v2 ∧ v2 < 8) (if σ 19 j0 v2.toNat ≤ 0 then lX5_readable_4 n σ j0 (qor v1 0) (wr (v2 + 1)) else lX5_readable_4 n σ j0 (qor v1 (qshl 1 v2)) (wr (v2 + 1)))
theorem lX5_readable_4_e0 (n : Nat) (σ : Hp) (j0 : Nat) (v1 : Int) (v2 : Int) : lX5_readable_4 (n + 1) σ j0 v1 v2 =
    if σ 5 j0 11 ≤ v2 then some (v1, σ) else gd ((0 : Int) ≤ v2 ∧ v2 < 8) (if σ 19 j0 v2.toNat ≤ 0 then lX5_readable_4 n σ j0 (qor v1 0) (wr (v2 + 1)) else lX5_readable_4 n σ j0 (qor v1 (qshl 1 v2)) (wr (v2 + 1))) := rfl
def fX5_readable (σ : Hp) (j0 : Nat) : Option (Int × Hp) :=
  lX5_readable_4 FU σ j0 0 0
def lX5_readableOn_7 : Nat → Hp → Nat → Int → Int → Int → Option (Int × Hp)
  | 0, _, _, _, _, _ => none
  | n + 1, σ, j0, v1, v2, v3 =>
    if σ 5 j0 11 ≤ v3 then some (v2, σ) else gd ((0 : Int) ≤ v3 ∧ v3 < 8) (if σ 16 j0 v3.toNat = v1 then lX5_readableOn_7 n σ j0 v1 (qand v2 255) (wr (v3 + 1)) else lX5_readableOn_7 n σ j0 v1 (qand v2 (qxor (qshl 1 v3) (-1))) (wr (v3 + 1)))
theorem lX5_readableOn_7_e0 (n : Nat) (σ : Hp) (j0 : Nat) (v1 : Int) (v2 : Int) (v3 : Int) : lX5_readableOn_7 (n + 1) σ j0 v1 v2 v3 =
    if σ 5 j0 11 ≤ v3 then some (v2, σ) else gd ((0 : Int) ≤ v3 ∧ v3 < 8) (if σ 16 j0 v3.toNat = v1 then lX5_readableOn_7 n σ j0 v1 (qand v2 255) (wr (v3 + 1)) else lX5_readableOn_7 n σ j0 v1 (qand v2 (qxor (qshl 1 v3) (-1))) (wr (v3 + 1))) := rfl
def fX5_readableOn (σ : Hp) (j0 : Nat) (v1 : Int) : Option (Int × Hp) :=
  cl (fX5_readable σ j0) (fun r1 σ2 => lX5_readableOn_7 FU σ2 j0 v1 r1 0)
def fX5_meetBehind (σ : Hp) (j0 : Nat) (v1 : Int) (v2 : Int) : Option (Int × Hp) :=
  cl (fX5_bothReadable σ j0 v1 v2) (fun r1 σ2 => if r1 = 0 then some (0, σ2) else cl (fX5_placesApart σ2 j0 v1 v2) (fun r7 σ8 => if r7 < 29 then some (0, σ8) else some (1, σ8)))
def fX6_isRow (v0 : Int) : Int :=
  fX6_isBelow v0 8
theorem zX6_isRow (v0 : Int) : fX6_isRow v0 = 0 ∨ fX6_isRow v0 = 1 := by
  unfold fX6_isRow
  repeat' split
  all_goals first | exact Or.inl rfl | exact Or.inr rfl | apply zX6_isBelow
def fX6_found (σ : Hp) (v1 : Int) : Option (Int × Hp) :=
  sq (hup σ 6 0 9 v1) (fun σ1 => some (wr ((-1000010) - v1), σ1))
def fX6_foundNothing (σ : Hp) (v1 : Int) : Option (Int × Hp) :=
  sq (hup σ 6 0 9 0) (fun σ1 => some (v1, σ1))
def fX6_row (σ : Hp) (v1 : Int) (v2 : Int) (v3 : Int) : Option (Int × Hp) :=
  if fX6_isRow v1 = 0 then some ((-1000001), σ) else if v2 < 0 then some ((-1000001), σ) else if 2 < v2 then some ((-1000001), σ) else if v3 ≤ 40 then if 0 ≤ v3 then gd (0 ≤ v1 ∧ v1 < 8) (cl (fX3_begin σ v1.toNat v2 v3) (fun _ σ10 => cl (fX6_foundNothing σ10 v3) (fun r14 σ15 => some (r14, σ15)))) else cl (fX6_found σ 4) (fun r19 σ20 => some (r19, σ20)) else some ((-1000001), σ)
def fX6_findingIn (σ : Hp) (j0 : Nat) (v1 : Int) (v2 : Int) : Int :=
  if σ 3 j0 1 = 0 then 1 else if fX3_spans σ j0 v1 v2 = 0 then 2 else 0
def fX6_set (σ : Hp) (v1 : Int) (v2 : Int) (v3 : Int) : Option (Int × Hp) :=
  if fX6_isRow v1 = 0 then some ((-1000001), σ) else gd (0 ≤ v1 ∧ v1 < 8) (if fX6_findingIn σ v1.toNat v2 1 = 0 then gd (0 ≤ v1 ∧ v1 < 8) (gd (0 ≤ v1 ∧ v1 < 8) (gd ((0 : Int) ≤ v2 ∧ v2 < 40) (sq (hup σ 11 v1.toNat v2.toNat (fX3_narrowed σ v1.toNat v3)) (fun σ13 => gd (0 ≤ v1 ∧ v1 < 8) (gd ((0 : Int) ≤ v2 ∧ v2 < 40) (cl (fX6_foundNothing σ13 (σ13 11 v1.toNat v2.toNat)) (fun r19 σ20 => some (r19, σ20)))))))) else cl (fX6_found σ (fX6_findingIn σ v1.toNat v2 1)) (fun r24 σ25 => some (r24, σ25)))
def fX6_copy (σ : Hp) (v1 : Int) (v2 : Int) (v3 : Int) (v4 : Int) (v5 : Int) : Option (Int × Hp) :=
  if fX6_isRow v1 = 0 then some ((-1000001), σ) else if fX6_isRow v3 = 0 then some ((-1000001), σ) else gd (0 ≤ v1 ∧ v1 < 8) (gd (0 ≤ v3 ∧ v3 < 8) (if σ 3 v1.toNat 1 = 0 then cl (fX6_found σ 1) (fun r10 σ11 => some (r10, σ11)) else if σ 3 v3.toNat 1 = 0 then cl (fX6_found σ 1) (fun r45 σ46 => some (r45, σ46)) else if σ 3 v1.toNat 2 = σ 3 v3.toNat 2 then if fX3_spans σ v1.toNat v2 v5 = 0 then cl (fX6_found σ 2) (fun r19 σ20 => some (r19, σ20)) else if fX3_spans σ v3.toNat v4 v5 = 0 then cl (fX6_found σ 2) (fun r35 σ36 => some (r35, σ36)) else gd (0 ≤ v2 ∧ 0 ≤ v4 ∧ 0 ≤ v5 ∧ v2 + v5 ≤ 40 ∧ v4 + v5 ≤ 40) (sq (hcp σ 11 v1.toNat v2.toNat 11 v3.toNat v4.toNat v5.toNat) (fun σ27 => cl (fX6_foundNothing σ27 v5) (fun r30 σ31 => some (r30, σ31)))) else cl (fX6_found σ 5) (fun r40 σ41 => some (r40, σ41))))
def fX6_drop (σ : Hp) (v1 : Int) : Option (Int × Hp) :=
  if fX6_isRow v1 = 0 then some ((-1000001), σ) else gd (0 ≤ v1 ∧ v1 < 8) (if σ 3 v1.toNat 1 = 0 then cl (fX6_found σ 1) (fun r18 σ19 => some (r18, σ19)) else gd (0 ≤ v1 ∧ v1 < 8) (sq (hup σ 3 v1.toNat 1 0) (fun σ8 => gd (0 ≤ v1 ∧ v1 < 8) (cl (fX6_foundNothing σ8 (σ8 3 v1.toNat 3)) (fun r13 σ14 => some (r13, σ14))))))
def fX6_feed (σ : Hp) (v1 : Int) : Option (Int × Hp) :=
  if v1 < 0 then some ((-1000001), σ) else if v1 ≤ 255 then cl (fX4_takes σ v1) (fun r3 σ4 => if r3 = 0 then some ((-1000003), σ4) else some (σ4 4 0 1, σ4)) else some ((-1000001), σ)
def fX6_wood (σ : Hp) : Option (Int × Hp) :=
  cl (fX4_tells σ 1) (fun r1 σ2 => sq (hup σ2 4 0 1 0) (fun σ6 => if r1 = 0 then sq (hup σ6 6 0 8 (σ6 4 0 2)) (fun σ20 => some (wr ((-1000100) - (σ20 4 0 3)), σ20)) else cl (fX5_become σ6 0 1) (fun _ σ11 => cl (fX1_forget σ11) (fun _ σ16 => some (σ16 5 0 11, σ16)))))
def fX6_fault (σ : Hp) : Int :=
  σ 6 0 8
def lX6_years_47 : Nat → Hp → Int → Int → Option (Int × Hp)
  | 0, _, _, _ => none
  | n + 1, σ, v1, v2 =>
    if v1 ≤ v2 then cl (fX5_readable σ 0) (fun r6 σ7 => some (fJ6_bitCount_0f7a4 r6, σ7)) else cl (fX1_keep σ 0) (fun _ σ13 => cl (fX5_passYear σ13 0) (fun _ σ18 => lX6_years_47 n σ18 v1 (wr (v2 + 1))))
theorem lX6_years_47_e0 (n : Nat) (σ : Hp) (v1 : Int) (v2 : Int) : lX6_years_47 (n + 1) σ v1 v2 =
    if v1 ≤ v2 then cl (fX5_readable σ 0) (fun r6 σ7 => some (fJ6_bitCount_0f7a4 r6, σ7)) else cl (fX1_keep σ 0) (fun _ σ13 => cl (fX5_passYear σ13 0) (fun _ σ18 => lX6_years_47 n σ18 v1 (wr (v2 + 1)))) := rfl
def fX6_years (σ : Hp) (v1 : Int) : Option (Int × Hp) :=
  if σ 5 0 7 = 0 then some ((-1000002), σ) else if v1 < 1 then some ((-1000001), σ) else if v1 ≤ 20 then if wr ((σ 5 0 9) + v1) ≤ 999 then lX6_years_47 FU σ v1 0 else some ((-1000003), σ) else some ((-1000001), σ)
def fX6_isDepth (v0 : Int) : Int :=
  if v0 < 1 then 0 else if 20 < v0 then 0 else 1
theorem zX6_isDepth (v0 : Int) : fX6_isDepth v0 = 0 ∨ fX6_isDepth v0 = 1 := by
  unfold fX6_isDepth
  repeat' split
  all_goals first | exact Or.inl rfl | exact Or.inr rfl | apply Or.inl
def fX6_cut (σ : Hp) (v1 : Int) (v2 : Int) (v3 : Int) (v4 : Int) : Option (Int × Hp) :=
  if fX5_hasTree σ 0 v1 = 0 then some ((-1000001), σ) else if fX6_isBelow v2 26 = 0 then some ((-1000001), σ) else if fX6_isBelow v3 60 = 0 then some ((-1000001), σ) else if fX6_isDepth v4 = 0 then some ((-1000001), σ) else cl (fX5_hasCutAt σ 0 v1 v3) (fun r9 σ10 => if r9 = 0 then if σ10 5 0 11 < 8 then cl (fX1_keep σ10 0) (fun _ σ17 => cl (fX5_addCut σ17 0 v1 v2 v3 v4) (fun _ σ22 => some (wr ((σ22 5 0 11) - 1), σ22))) else some ((-1000003), σ10) else some ((-1000002), σ10))
def fX6_anew (σ : Hp) (v1 : Int) (v2 : Int) : Option (Int × Hp) :=
  if fX5_hasCut σ 0 v1 = 0 then some ((-1000001), σ) else if fX6_isDepth v2 = 0 then some ((-1000001), σ) else gd ((0 : Int) ≤ v1 ∧ v1 < 8) (if σ 19 0 v1.toNat = 0 then some ((-1000002), σ) else cl (fX1_keep σ 0) (fun _ σ8 => gd ((0 : Int) ≤ v1 ∧ v1 < 8) (sq (hup σ8 19 0 v1.toNat v2) (fun σ13 => some (σ 19 0 v1.toNat, σ13)))))
def fX6_scrape (σ : Hp) (v1 : Int) : Option (Int × Hp) :=
  if fX5_hasCut σ 0 v1 = 0 then some ((-1000001), σ) else cl (fX1_keep σ 0) (fun _ σ4 => cl (fX5_removeCut σ4 0 v1) (fun _ σ9 => some (σ9 5 0 11, σ9)))
def fX6_undo (σ : Hp) : Option (Int × Hp) :=
  if σ 1 0 2 = 0 then some ((-1000002), σ) else cl (fX1_bringBack σ 0) (fun _ σ3 => some (σ3 1 0 2, σ3))
def fX6_tree (σ : Hp) (v1 : Int) (v2 : Int) : Option (Int × Hp) :=
  if fX5_hasTree σ 0 v1 = 0 then some ((-1000001), σ) else if v2 = 0 then gd ((0 : Int) ≤ v1 ∧ v1 < 4) (some (σ 14 0 v1.toNat, σ)) else if v2 = 1 then gd ((0 : Int) ≤ v1 ∧ v1 < 4) (some (σ 15 0 v1.toNat, σ)) else if v2 = 2 then cl (fX5_readableOn σ 0 v1) (fun r8 σ9 => some (r8, σ9)) else if v2 = 3 then cl (fX5_growth σ 0 v1) (fun r14 σ15 => some (r14, σ15)) else some ((-1000001), σ)
def fX6_cutHas (σ : Hp) (v1 : Int) (v2 : Int) : Option (Int × Hp) :=
  if fX5_hasCut σ 0 v1 = 0 then some ((-1000001), σ) else if v2 = 0 then gd ((0 : Int) ≤ v1 ∧ v1 < 8) (some (σ 16 0 v1.toNat, σ)) else if v2 = 1 then gd ((0 : Int) ≤ v1 ∧ v1 < 8) (some (σ 17 0 v1.toNat, σ)) else if v2 = 2 then gd ((0 : Int) ≤ v1 ∧ v1 < 8) (some (σ 18 0 v1.toNat, σ)) else if v2 = 3 then gd ((0 : Int) ≤ v1 ∧ v1 < 8) (some (σ 19 0 v1.toNat, σ)) else some ((-1000001), σ)
def fX6_apart (σ : Hp) (v1 : Int) (v2 : Int) : Option (Int × Hp) :=
  if fX5_hasCut σ 0 v1 = 0 then some ((-1000001), σ) else if fX5_hasCut σ 0 v2 = 0 then some ((-1000001), σ) else if v1 = v2 then some ((-1000001), σ) else cl (fX5_bothReadable σ 0 v1 v2) (fun r6 σ7 => if r6 = 0 then some ((-1000000), σ7) else cl (fX5_distance σ7 0 v1 v2) (fun r12 σ13 => some (r12, σ13)))
def fX6_isPair (σ : Hp) (v1 : Int) (v2 : Int) : Option (Int × Hp) :=
  if fX5_hasCut σ 0 v1 = 0 then some (0, σ) else if fX5_hasCut σ 0 v2 = 0 then some (0, σ) else if v1 = v2 then some (0, σ) else gd ((0 : Int) ≤ v1 ∧ v1 < 8) (gd ((0 : Int) ≤ v2 ∧ v2 < 8) (if σ 16 0 v1.toNat = σ 16 0 v2.toNat then some (1, σ) else some (0, σ)))
def fX6_areTogether (σ : Hp) (j1 : Nat) (v2 : Int) (v3 : Int) : Option (Int × Hp) :=
  cl (fX2_lookAt σ j1) (fun _ σ2 => cl (fX2_reached σ2 v2 255) (fun r6 σ7 => some (fX6_isIn r6 v3, σ7)))
def fX6_together (σ : Hp) (v1 : Int) (v2 : Int) : Option (Int × Hp) :=
  cl (fX6_isPair σ v1 v2) (fun r1 σ2 => if r1 = 0 then some ((-1000001), σ2) else cl (fX6_areTogether σ2 0 v1 v2) (fun r7 σ8 => if r7 = 0 then some (0, σ8) else some (1, σ8)))
def fX6_isForetold (v0 : Int) : Int :=
  fX6_isBelow v0 51
theorem zX6_isForetold (v0 : Int) : fX6_isForetold v0 = 0 ∨ fX6_isForetold v0 = 1 := by
  unfold fX6_isForetold
  repeat' split
  all_goals first | exact Or.inl rfl | exact Or.inr rfl | apply zX6_isBelow
def fX6_foretell (σ : Hp) (v1 : Int) : Option (Int × Hp) :=
  cl (fX5_become σ 1 0) (fun _ σ2 => cl (fX5_passYears σ2 1 v1) (fun _ σ7 => some (0, σ7)))
def fX6_girth (σ : Hp) (v1 : Int) (v2 : Int) : Option (Int × Hp) :=
  if fX5_hasTree σ 0 v1 = 0 then some ((-1000001), σ) else if fX6_isForetold v2 = 0 then some ((-1000001), σ) else cl (fX6_foretell σ v2) (fun _ σ6 => gd ((0 : Int) ≤ v1 ∧ v1 < 4) (some (σ6 14 1 v1.toNat, σ6)))
def fX6_left (σ : Hp) (v1 : Int) : Option (Int × Hp) :=
  if σ 5 0 7 = 0 then some ((-1000002), σ) else if fX6_isForetold v1 = 0 then some ((-1000001), σ) else cl (fX6_foretell σ v1) (fun _ σ5 => cl (fX5_readable σ5 1) (fun r9 σ10 => some (r9, σ10)))
def lX6_free_25 : Nat → Hp → Int → Int → Int → Option (Int × Hp)
  | 0, _, _, _, _ => none
  | n + 1, σ, v1, v2, v3 =>
    if 50 < v3 then some ((-1000000), σ) else cl (fX6_areTogether σ 1 v1 v2) (fun r13 σ14 => if r13 = 0 then some (v3, σ14) else cl (fX5_passYear σ14 1) (fun _ σ20 => lX6_free_25 n σ20 v1 v2 (wr (v3 + 1))))
theorem lX6_free_25_e0 (n : Nat) (σ : Hp) (v1 : Int) (v2 : Int) (v3 : Int) : lX6_free_25 (n + 1) σ v1 v2 v3 =
    if 50 < v3 then some ((-1000000), σ) else cl (fX6_areTogether σ 1 v1 v2) (fun r13 σ14 => if r13 = 0 then some (v3, σ14) else cl (fX5_passYear σ14 1) (fun _ σ20 => lX6_free_25 n σ20 v1 v2 (wr (v3 + 1)))) := rfl
def fX6_free (σ : Hp) (v1 : Int) (v2 : Int) : Option (Int × Hp) :=
  cl (fX6_isPair σ v1 v2) (fun r1 σ2 => if r1 = 0 then some ((-1000001), σ2) else cl (fX5_become σ2 1 0) (fun _ σ8 => lX6_free_25 FU σ8 v1 v2 0))
def lX6_treesOfPairsReadAsOne_4 : Nat → Hp → Int → Int → Option (Int × Hp)
  | 0, _, _, _ => none
  | n + 1, σ, v1, v2 =>
    if σ 5 1 10 ≤ v2 then some (v1, σ) else cl (fX5_readAsOne σ 1 (wr (2 * v2)) (wr ((wr (2 * v2)) + 1))) (fun r2 σ3 => if r2 = 0 then lX6_treesOfPairsReadAsOne_4 n σ3 v1 (wr (v2 + 1)) else lX6_treesOfPairsReadAsOne_4 n σ3 (qor v1 (qshl 1 v2)) (wr (v2 + 1)))
theorem lX6_treesOfPairsReadAsOne_4_e0 (n : Nat) (σ : Hp) (v1 : Int) (v2 : Int) : lX6_treesOfPairsReadAsOne_4 (n + 1) σ v1 v2 =
    if σ 5 1 10 ≤ v2 then some (v1, σ) else cl (fX5_readAsOne σ 1 (wr (2 * v2)) (wr ((wr (2 * v2)) + 1))) (fun r2 σ3 => if r2 = 0 then lX6_treesOfPairsReadAsOne_4 n σ3 v1 (wr (v2 + 1)) else lX6_treesOfPairsReadAsOne_4 n σ3 (qor v1 (qshl 1 v2)) (wr (v2 + 1))) := rfl
def fX6_treesOfPairsReadAsOne (σ : Hp) : Option (Int × Hp) :=
  lX6_treesOfPairsReadAsOne_4 FU σ 0 0
def lX6_holds_114 : Nat → Hp → Int → Int → Int → Option (Int × Hp)
  | 0, _, _, _, _ => none
  | n + 1, σ, v3, v4, v5 =>
    if v3 < v5 then some (v4, σ) else cl (fX5_passYear σ 1) (fun _ σ34 => cl (fX6_treesOfPairsReadAsOne σ34) (fun r38 σ39 => lX6_holds_114 n σ39 v3 (qand v4 r38) (wr (v5 + 1))))
theorem lX6_holds_114_e0 (n : Nat) (σ : Hp) (v3 : Int) (v4 : Int) (v5 : Int) : lX6_holds_114 (n + 1) σ v3 v4 v5 =
    if v3 < v5 then some (v4, σ) else cl (fX5_passYear σ 1) (fun _ σ34 => cl (fX6_treesOfPairsReadAsOne σ34) (fun r38 σ39 => lX6_holds_114 n σ39 v3 (qand v4 r38) (wr (v5 + 1)))) := rfl
def lX6_holds_63 : Nat → Hp → Int → Int → Int → Int → Option (Int × Hp)
  | 0, _, _, _, _, _ => none
  | n + 1, σ, v1, v2, v3, v4 =>
    if σ 5 1 10 ≤ v4 then cl (fX6_treesOfPairsReadAsOne σ) (fun r17 σ18 => lX6_holds_114 FU σ18 v3 r17 1) else cl (fX5_addCut σ 1 v4 0 0 v2) (fun _ σ23 => cl (fX5_addCut σ23 1 v4 0 v1 v2) (fun _ σ28 => lX6_holds_63 n σ28 v1 v2 v3 (wr (v4 + 1))))
theorem lX6_holds_63_e0 (n : Nat) (σ : Hp) (v1 : Int) (v2 : Int) (v3 : Int) (v4 : Int) : lX6_holds_63 (n + 1) σ v1 v2 v3 v4 =
    if σ 5 1 10 ≤ v4 then cl (fX6_treesOfPairsReadAsOne σ) (fun r17 σ18 => lX6_holds_114 FU σ18 v3 r17 1) else cl (fX5_addCut σ 1 v4 0 0 v2) (fun _ σ23 => cl (fX5_addCut σ23 1 v4 0 v1 v2) (fun _ σ28 => lX6_holds_63 n σ28 v1 v2 v3 (wr (v4 + 1)))) := rfl
def fX6_holds (σ : Hp) (v1 : Int) (v2 : Int) (v3 : Int) : Option (Int × Hp) :=
  if σ 5 0 7 = 0 then some ((-1000002), σ) else if v1 < 1 then some ((-1000001), σ) else if 30 < v1 then some ((-1000001), σ) else if fX6_isDepth v2 = 0 then some ((-1000001), σ) else if fX6_isForetold v3 = 0 then some ((-1000001), σ) else cl (fX5_become σ 1 0) (fun _ σ9 => sq (hup σ9 5 1 11 0) (fun σ13 => lX6_holds_63 FU σ13 v1 v2 v3 0))
def fX6_deep (σ : Hp) (v1 : Int) (v2 : Int) : Option (Int × Hp) :=
  if fX5_hasTree σ 0 v1 = 0 then some ((-1000001), σ) else if fX6_isForetold v2 = 0 then some ((-1000001), σ) else cl (fX5_become σ 1 0) (fun _ σ6 => sq (hup σ6 5 1 11 0) (fun σ10 => cl (fX5_addCut σ10 1 v1 0 0 20) (fun _ σ14 => cl (fX5_passYears σ14 1 v2) (fun _ σ19 => if σ19 19 1 0 = 0 then some ((-1000000), σ19) else some (wr ((wr (20 - (σ19 19 1 0))) + 1), σ19)))))
def fX6_isChoice (v0 : Int) : Int :=
  fX6_isBelow v0 2
theorem zX6_isChoice (v0 : Int) : fX6_isChoice v0 = 0 ∨ fX6_isChoice v0 = 1 := by
  unfold fX6_isChoice
  repeat' split
  all_goals first | exact Or.inl rfl | exact Or.inr rfl | apply zX6_isBelow
def lX6_meet_30 : Nat → Nat → Hp → Int → Int → Int → Int → Int → Int → Option (Int × Hp)
  | 0, _, _, _, _, _, _, _, _ => none
  | n + 1, 0, σ, v1, v2, v3, v4, v5, v6 =>
    if σ 5 0 11 ≤ v5 then if v2 = 0 then some (v3, σ) else some (v4, σ) else lX6_meet_30 n 1 σ v1 v2 v3 v4 v5 (wr (v5 + 1))
  | n + 1, _, σ, v1, v2, v3, v4, v5, v6 =>
    if σ 5 0 11 ≤ v6 then lX6_meet_30 n 0 σ v1 v2 v3 v4 (wr (v5 + 1)) 0 else gd ((0 : Int) ≤ v5 ∧ v5 < 8) (if σ 16 0 v5.toNat = v1 then cl (fX5_meetBehind σ 0 v5 v6) (fun r10 σ11 => if r10 = 0 then lX6_meet_30 n 1 σ11 v1 v2 v3 v4 v5 (wr (v6 + 1)) else if v3 = 0 then lX6_meet_30 n 1 σ11 v1 v2 (wr (v3 + 1)) (wr ((wr (10 * v5)) + v6)) v5 (wr (v6 + 1)) else lX6_meet_30 n 1 σ11 v1 v2 (wr (v3 + 1)) v4 v5 (wr (v6 + 1))) else lX6_meet_30 n 1 σ v1 v2 v3 v4 v5 (wr (v6 + 1)))
theorem lX6_meet_30_e0 (n : Nat) (σ : Hp) (v1 : Int) (v2 : Int) (v3 : Int) (v4 : Int) (v5 : Int) (v6 : Int) : lX6_meet_30 (n + 1) 0 σ v1 v2 v3 v4 v5 v6 =
    if σ 5 0 11 ≤ v5 then if v2 = 0 then some (v3, σ) else some (v4, σ) else lX6_meet_30 n 1 σ v1 v2 v3 v4 v5 (wr (v5 + 1)) := rfl
theorem lX6_meet_30_e1 (n : Nat) (σ : Hp) (v1 : Int) (v2 : Int) (v3 : Int) (v4 : Int) (v5 : Int) (v6 : Int) : lX6_meet_30 (n + 1) 1 σ v1 v2 v3 v4 v5 v6 =
    if σ 5 0 11 ≤ v6 then lX6_meet_30 n 0 σ v1 v2 v3 v4 (wr (v5 + 1)) 0 else gd ((0 : Int) ≤ v5 ∧ v5 < 8) (if σ 16 0 v5.toNat = v1 then cl (fX5_meetBehind σ 0 v5 v6) (fun r10 σ11 => if r10 = 0 then lX6_meet_30 n 1 σ11 v1 v2 v3 v4 v5 (wr (v6 + 1)) else if v3 = 0 then lX6_meet_30 n 1 σ11 v1 v2 (wr (v3 + 1)) (wr ((wr (10 * v5)) + v6)) v5 (wr (v6 + 1)) else lX6_meet_30 n 1 σ11 v1 v2 (wr (v3 + 1)) v4 v5 (wr (v6 + 1))) else lX6_meet_30 n 1 σ v1 v2 v3 v4 v5 (wr (v6 + 1))) := rfl
def fX6_meet (σ : Hp) (v1 : Int) (v2 : Int) : Option (Int × Hp) :=
  if fX5_hasTree σ 0 v1 = 0 then some ((-1000001), σ) else if fX6_isChoice v2 = 0 then some ((-1000001), σ) else lX6_meet_30 FU 0 σ v1 v2 0 (-1000000) 0 0
def lX6_rings_50 : Nat → Hp → Int → Int → Int → Int → Int → Option (Int × Hp)
  | 0, _, _, _, _, _, _ => none
  | n + 1, σ, v2, v3, v4, v5, v6 =>
    if σ 5 0 11 ≤ v6 then if v2 = 0 then some (v4, σ) else some (v5, σ) else if fX6_isIn v3 v6 = 0 then lX6_rings_50 n σ v2 v3 v4 v5 (wr (v6 + 1)) else cl (fX2_reached σ v6 v3) (fun r19 σ20 => lX6_rings_50 n σ20 v2 (qand v3 (qxor r19 (-1))) (wr (v4 + 1)) (qmax v5 (fJ6_bitCount_0f7a4 r19)) (wr (v6 + 1)))
theorem lX6_rings_50_e0 (n : Nat) (σ : Hp) (v2 : Int) (v3 : Int) (v4 : Int) (v5 : Int) (v6 : Int) : lX6_rings_50 (n + 1) σ v2 v3 v4 v5 v6 =
    if σ 5 0 11 ≤ v6 then if v2 = 0 then some (v4, σ) else some (v5, σ) else if fX6_isIn v3 v6 = 0 then lX6_rings_50 n σ v2 v3 v4 v5 (wr (v6 + 1)) else cl (fX2_reached σ v6 v3) (fun r19 σ20 => lX6_rings_50 n σ20 v2 (qand v3 (qxor r19 (-1))) (wr (v4 + 1)) (qmax v5 (fJ6_bitCount_0f7a4 r19)) (wr (v6 + 1))) := rfl
def fX6_rings (σ : Hp) (v1 : Int) (v2 : Int) : Option (Int × Hp) :=
  if fX5_hasTree σ 0 v1 = 0 then some ((-1000001), σ) else if fX6_isChoice v2 = 0 then some ((-1000001), σ) else cl (fX2_lookAt σ 0) (fun _ σ6 => cl (fX5_readableOn σ6 0 v1) (fun r10 σ11 => lX6_rings_50 FU σ11 v2 r10 0 0 0))
def fX6_isTold (v0 : Int) : Int :=
  if v0 < 1 then 0 else if 16 < v0 then 0 else 1
theorem zX6_isTold (v0 : Int) : fX6_isTold v0 = 0 ∨ fX6_isTold v0 = 1 := by
  unfold fX6_isTold
  repeat' split
  all_goals first | exact Or.inl rfl | exact Or.inr rfl | apply Or.inl
def lX6_goesSo_3 : Nat → Hp → Nat → Nat → Nat → Int → Int → Int → Int → Option (Int × Hp)
  | 0, _, _, _, _, _, _, _, _ => none
  | n + 1, σ, s1, j1, j3, v2, v4, v5, v6 =>
    if v5 ≤ v6 then some (1, σ) else cl (fX5_passYear σ 1) (fun _ σ3 => gd ((0 : Int) ≤ v2 ∧ v2 < (alen s1 : Int)) (gd ((0 : Int) ≤ wr (v4 + v6) ∧ wr (v4 + v6) < 40) (if σ3 s1 j1 v2.toNat = σ3 11 j3 (wr (v4 + v6)).toNat then lX6_goesSo_3 n σ3 s1 j1 j3 v2 v4 v5 (wr (v6 + 1)) else some (0, σ3))))
theorem lX6_goesSo_3_e0 (n : Nat) (σ : Hp) (s1 : Nat) (j1 : Nat) (j3 : Nat) (v2 : Int) (v4 : Int) (v5 : Int) (v6 : Int) : lX6_goesSo_3 (n + 1) σ s1 j1 j3 v2 v4 v5 v6 =
    if v5 ≤ v6 then some (1, σ) else cl (fX5_passYear σ 1) (fun _ σ3 => gd ((0 : Int) ≤ v2 ∧ v2 < (alen s1 : Int)) (gd ((0 : Int) ≤ wr (v4 + v6) ∧ wr (v4 + v6) < 40) (if σ3 s1 j1 v2.toNat = σ3 11 j3 (wr (v4 + v6)).toNat then lX6_goesSo_3 n σ3 s1 j1 j3 v2 v4 v5 (wr (v6 + 1)) else some (0, σ3)))) := rfl
def fX6_goesSo (σ : Hp) (s1 : Nat) (j1 : Nat) (v2 : Int) (j3 : Nat) (v4 : Int) (v5 : Int) : Option (Int × Hp) :=
  lX6_goesSo_3 FU σ s1 j1 j3 v2 v4 v5 0
def lX6_gaps_61 : Nat → Hp → Int → Int → Int → Int → Int → Int → Option (Int × Hp)
  | 0, _, _, _, _, _, _, _ => none
  | n + 1, σ, v1, v2, v3, v4, v6, v7 =>
    if 20 < v7 then cl (fX6_foundNothing σ v6) (fun r17 σ18 => some (r17, σ18)) else cl (fX5_become σ 1 0) (fun _ σ23 => gd ((0 : Int) ≤ v1 ∧ v1 < 8) (sq (hup σ23 19 1 v1.toNat v7) (fun σ28 => gd (0 ≤ v2 ∧ v2 < 8) (cl (fX6_goesSo σ28 19 1 v1 v2.toNat v3 v4) (fun r33 σ34 => if r33 = 0 then lX6_gaps_61 n σ34 v1 v2 v3 v4 v6 (wr (v7 + 1)) else lX6_gaps_61 n σ34 v1 v2 v3 v4 (qor v6 (qshl 1 v7)) (wr (v7 + 1)))))))
theorem lX6_gaps_61_e0 (n : Nat) (σ : Hp) (v1 : Int) (v2 : Int) (v3 : Int) (v4 : Int) (v6 : Int) (v7 : Int) : lX6_gaps_61 (n + 1) σ v1 v2 v3 v4 v6 v7 =
    if 20 < v7 then cl (fX6_foundNothing σ v6) (fun r17 σ18 => some (r17, σ18)) else cl (fX5_become σ 1 0) (fun _ σ23 => gd ((0 : Int) ≤ v1 ∧ v1 < 8) (sq (hup σ23 19 1 v1.toNat v7) (fun σ28 => gd (0 ≤ v2 ∧ v2 < 8) (cl (fX6_goesSo σ28 19 1 v1 v2.toNat v3 v4) (fun r33 σ34 => if r33 = 0 then lX6_gaps_61 n σ34 v1 v2 v3 v4 v6 (wr (v7 + 1)) else lX6_gaps_61 n σ34 v1 v2 v3 v4 (qor v6 (qshl 1 v7)) (wr (v7 + 1))))))) := rfl
def fX6_gaps (σ : Hp) (v1 : Int) (v2 : Int) (v3 : Int) (v4 : Int) : Option (Int × Hp) :=
  if fX5_hasCut σ 0 v1 = 0 then some ((-1000001), σ) else if fX6_isRow v2 = 0 then some ((-1000001), σ) else if fX6_isTold v4 = 0 then some ((-1000001), σ) else gd (0 ≤ v2 ∧ v2 < 8) (if fX6_findingIn σ v2.toNat v3 v4 = 0 then lX6_gaps_61 FU σ v1 v2 v3 v4 0 1 else cl (fX6_found σ (fX6_findingIn σ v2.toNat v3 v4)) (fun r11 σ12 => some (r11, σ12)))
def lX6_kindsThatGoSo_6 : Nat → Hp → Nat → Int → Int → Int → Int → Int → Option (Int × Hp)
  | 0, _, _, _, _, _, _, _ => none
  | n + 1, σ, j2, v1, v3, v4, v5, v6 =>
    if 5 < v6 then some (v5, σ) else cl (fX5_become σ 1 0) (fun _ σ3 => gd ((0 : Int) ≤ v1 ∧ v1 < 4) (sq (hup σ3 13 1 v1.toNat v6) (fun σ8 => cl (fX6_goesSo σ8 14 1 v1 j2 v3 v4) (fun r11 σ12 => if r11 = 0 then lX6_kindsThatGoSo_6 n σ12 j2 v1 v3 v4 v5 (wr (v6 + 1)) else lX6_kindsThatGoSo_6 n σ12 j2 v1 v3 v4 (qor v5 (qshl 1 v6)) (wr (v6 + 1))))))
theorem lX6_kindsThatGoSo_6_e0 (n : Nat) (σ : Hp) (j2 : Nat) (v1 : Int) (v3 : Int) (v4 : Int) (v5 : Int) (v6 : Int) : lX6_kindsThatGoSo_6 (n + 1) σ j2 v1 v3 v4 v5 v6 =
    if 5 < v6 then some (v5, σ) else cl (fX5_become σ 1 0) (fun _ σ3 => gd ((0 : Int) ≤ v1 ∧ v1 < 4) (sq (hup σ3 13 1 v1.toNat v6) (fun σ8 => cl (fX6_goesSo σ8 14 1 v1 j2 v3 v4) (fun r11 σ12 => if r11 = 0 then lX6_kindsThatGoSo_6 n σ12 j2 v1 v3 v4 v5 (wr (v6 + 1)) else lX6_kindsThatGoSo_6 n σ12 j2 v1 v3 v4 (qor v5 (qshl 1 v6)) (wr (v6 + 1)))))) := rfl
def fX6_kindsThatGoSo (σ : Hp) (v1 : Int) (j2 : Nat) (v3 : Int) (v4 : Int) : Option (Int × Hp) :=
  lX6_kindsThatGoSo_6 FU σ j2 v1 v3 v4 0 1
def lX6_sunsThatGoSo_6 : Nat → Hp → Nat → Int → Int → Int → Int → Int → Option (Int × Hp)
  | 0, _, _, _, _, _, _, _ => none
  | n + 1, σ, j2, v1, v3, v4, v5, v6 =>
    if 9 < v6 then some (v5, σ) else cl (fX5_become σ 1 0) (fun _ σ3 => gd ((0 : Int) ≤ v1 ∧ v1 < 4) (sq (hup σ3 15 1 v1.toNat v6) (fun σ8 => cl (fX6_goesSo σ8 14 1 v1 j2 v3 v4) (fun r11 σ12 => if r11 = 0 then lX6_sunsThatGoSo_6 n σ12 j2 v1 v3 v4 v5 (wr (v6 + 1)) else lX6_sunsThatGoSo_6 n σ12 j2 v1 v3 v4 (qor v5 (qshl 1 v6)) (wr (v6 + 1))))))
theorem lX6_sunsThatGoSo_6_e0 (n : Nat) (σ : Hp) (j2 : Nat) (v1 : Int) (v3 : Int) (v4 : Int) (v5 : Int) (v6 : Int) : lX6_sunsThatGoSo_6 (n + 1) σ j2 v1 v3 v4 v5 v6 =
    if 9 < v6 then some (v5, σ) else cl (fX5_become σ 1 0) (fun _ σ3 => gd ((0 : Int) ≤ v1 ∧ v1 < 4) (sq (hup σ3 15 1 v1.toNat v6) (fun σ8 => cl (fX6_goesSo σ8 14 1 v1 j2 v3 v4) (fun r11 σ12 => if r11 = 0 then lX6_sunsThatGoSo_6 n σ12 j2 v1 v3 v4 v5 (wr (v6 + 1)) else lX6_sunsThatGoSo_6 n σ12 j2 v1 v3 v4 (qor v5 (qshl 1 v6)) (wr (v6 + 1)))))) := rfl
def fX6_sunsThatGoSo (σ : Hp) (v1 : Int) (j2 : Nat) (v3 : Int) (v4 : Int) : Option (Int × Hp) :=
  lX6_sunsThatGoSo_6 FU σ j2 v1 v3 v4 0 0
def fX6_which (σ : Hp) (v1 : Int) (v2 : Int) (v3 : Int) (v4 : Int) (v5 : Int) : Option (Int × Hp) :=
  if fX5_hasTree σ 0 v1 = 0 then some ((-1000001), σ) else if fX6_isRow v2 = 0 then some ((-1000001), σ) else if fX6_isTold v4 = 0 then some ((-1000001), σ) else if fX6_isChoice v5 = 0 then some ((-1000001), σ) else gd (0 ≤ v2 ∧ v2 < 8) (if fX6_findingIn σ v2.toNat v3 v4 = 0 then if v5 = 0 then gd (0 ≤ v2 ∧ v2 < 8) (cl (fX6_kindsThatGoSo σ v1 v2.toNat v3 v4) (fun r28 σ29 => cl (fX6_foundNothing σ29 r28) (fun r33 σ34 => some (r33, σ34)))) else gd (0 ≤ v2 ∧ v2 < 8) (cl (fX6_sunsThatGoSo σ v1 v2.toNat v3 v4) (fun r16 σ17 => cl (fX6_foundNothing σ17 r16) (fun r21 σ22 => some (r21, σ22)))) else cl (fX6_found σ (fX6_findingIn σ v2.toNat v3 v4)) (fun r38 σ39 => some (r38, σ39)))
def lX6_power_4 : Nat → Hp → Int → Int → Int → Int → Option (Int × Hp)
  | 0, _, _, _, _, _ => none
  | n + 1, σ, v0, v1, v2, v3 =>
    if v1 ≤ v3 then some (v2, σ) else lX6_power_4 n σ v0 v1 (wr (v2 * v0)) (wr (v3 + 1))
theorem lX6_power_4_e0 (n : Nat) (σ : Hp) (v0 : Int) (v1 : Int) (v2 : Int) (v3 : Int) : lX6_power_4 (n + 1) σ v0 v1 v2 v3 =
    if v1 ≤ v3 then some (v2, σ) else lX6_power_4 n σ v0 v1 (wr (v2 * v0)) (wr (v3 + 1)) := rfl
def fX6_power (σ : Hp) (v0 : Int) (v1 : Int) : Option (Int × Hp) :=
  lX6_power_4 FU σ v0 v1 1 0
def lX6_stormWays_35 : Nat → Nat → Hp → Int → Int → Int → Int → Int → Int → Int → Option (Int × Hp)
  | 0, _, _, _, _, _, _, _, _, _ => none
  | n + 1, 0, σ, v1, v2, v3, v4, v5, v6, w0 =>
    if v4 < v6 then some (v5, σ) else if qand v6 (qxor v4 (-1)) = 0 then if fX6_isIn v6 v1 = 0 then lX6_stormWays_35 n 1 σ v1 v2 v3 v4 v5 v6 0 else if fX6_isIn v6 v2 = 0 then lX6_stormWays_35 n 1 σ v1 v2 v3 v4 v5 v6 0 else lX6_stormWays_35 n 1 σ v1 v2 v3 v4 v5 v6 1 else lX6_stormWays_35 n 1 σ v1 v2 v3 v4 v5 v6 0
  | n + 1, _, σ, v1, v2, v3, v4, v5, v6, w0 =>
    if w0 = 0 then lX6_stormWays_35 n 0 σ v1 v2 v3 v4 v5 (wr (v6 + 1)) 0 else cl (fX2_reached σ v1 v6) (fun r19 σ20 => if fX6_isIn r19 v2 = 0 then lX6_stormWays_35 n 0 σ20 v1 v2 v3 v4 v5 (wr (v6 + 1)) 0 else cl (fX6_power σ20 (wr (10 - v3)) (fJ6_bitCount_0f7a4 v6)) (fun r27 σ28 => cl (fX6_power σ28 v3 (fJ6_bitCount_0f7a4 (qand v4 (qxor v6 (-1))))) (fun r33 σ34 => lX6_stormWays_35 n 0 σ34 v1 v2 v3 v4 (wr (v5 + (wr (r27 * r33)))) (wr (v6 + 1)) 0)))
theorem lX6_stormWays_35_e0 (n : Nat) (σ : Hp) (v1 : Int) (v2 : Int) (v3 : Int) (v4 : Int) (v5 : Int) (v6 : Int) (w0 : Int) : lX6_stormWays_35 (n + 1) 0 σ v1 v2 v3 v4 v5 v6 w0 =
    if v4 < v6 then some (v5, σ) else if qand v6 (qxor v4 (-1)) = 0 then if fX6_isIn v6 v1 = 0 then lX6_stormWays_35 n 1 σ v1 v2 v3 v4 v5 v6 0 else if fX6_isIn v6 v2 = 0 then lX6_stormWays_35 n 1 σ v1 v2 v3 v4 v5 v6 0 else lX6_stormWays_35 n 1 σ v1 v2 v3 v4 v5 v6 1 else lX6_stormWays_35 n 1 σ v1 v2 v3 v4 v5 v6 0 := rfl
theorem lX6_stormWays_35_e1 (n : Nat) (σ : Hp) (v1 : Int) (v2 : Int) (v3 : Int) (v4 : Int) (v5 : Int) (v6 : Int) (w0 : Int) : lX6_stormWays_35 (n + 1) 1 σ v1 v2 v3 v4 v5 v6 w0 =
    if w0 = 0 then lX6_stormWays_35 n 0 σ v1 v2 v3 v4 v5 (wr (v6 + 1)) 0 else cl (fX2_reached σ v1 v6) (fun r19 σ20 => if fX6_isIn r19 v2 = 0 then lX6_stormWays_35 n 0 σ20 v1 v2 v3 v4 v5 (wr (v6 + 1)) 0 else cl (fX6_power σ20 (wr (10 - v3)) (fJ6_bitCount_0f7a4 v6)) (fun r27 σ28 => cl (fX6_power σ28 v3 (fJ6_bitCount_0f7a4 (qand v4 (qxor v6 (-1))))) (fun r33 σ34 => lX6_stormWays_35 n 0 σ34 v1 v2 v3 v4 (wr (v5 + (wr (r27 * r33)))) (wr (v6 + 1)) 0))) := rfl
def fX6_stormWays (σ : Hp) (v1 : Int) (v2 : Int) (v3 : Int) : Option (Int × Hp) :=
  cl (fX2_lookAt σ 0) (fun _ σ2 => gd ((0 : Int) ≤ v1 ∧ v1 < 8) (cl (fX5_readableOn σ2 0 (σ2 16 0 v1.toNat)) (fun r7 σ8 => lX6_stormWays_35 FU 0 σ8 v1 v2 v3 r7 0 0 0)))
def lX6_greatestDivisor_15 : Nat → Hp → Int → Int → Int → Option (Int × Hp)
  | 0, _, _, _, _ => none
  | n + 1, σ, v2, v3, v4 =>
    if 64 ≤ v4 then some (qmax v2 1, σ) else if v3 ≤ 0 then some (qmax v2 1, σ) else gd (v3 ≠ 0) (lX6_greatestDivisor_15 n σ v3 (qrem v2 v3) (wr (v4 + 1)))
theorem lX6_greatestDivisor_15_e0 (n : Nat) (σ : Hp) (v2 : Int) (v3 : Int) (v4 : Int) : lX6_greatestDivisor_15 (n + 1) σ v2 v3 v4 =
    if 64 ≤ v4 then some (qmax v2 1, σ) else if v3 ≤ 0 then some (qmax v2 1, σ) else gd (v3 ≠ 0) (lX6_greatestDivisor_15 n σ v3 (qrem v2 v3) (wr (v4 + 1))) := rfl
def fX6_greatestDivisor (σ : Hp) (v0 : Int) (v1 : Int) : Option (Int × Hp) :=
  lX6_greatestDivisor_15 FU σ (qmax v0 v1) (qmin v0 v1) 0
def fX6_storm (σ : Hp) (v1 : Int) (v2 : Int) (v3 : Int) (v4 : Int) : Option (Int × Hp) :=
  cl (fX6_isPair σ v1 v2) (fun r1 σ2 => if r1 = 0 then some ((-1000001), σ2) else if v3 < 0 then some ((-1000001), σ2) else if 10 < v3 then some ((-1000001), σ2) else if fX6_isChoice v4 = 0 then some ((-1000001), σ2) else cl (fX6_stormWays σ2 v1 v2 v3) (fun r11 σ12 => gd ((0 : Int) ≤ v1 ∧ v1 < 8) (cl (fX5_readableOn σ12 0 (σ12 16 0 v1.toNat)) (fun r17 σ18 => cl (fX6_power σ18 10 (fJ6_bitCount_0f7a4 r17)) (fun r23 σ24 => cl (fX6_greatestDivisor σ24 r11 r23) (fun r28 σ29 => if v4 = 0 then gd (r28 ≠ 0) (some (qdiv r11 r28, σ29)) else gd (r28 ≠ 0) (some (qdiv r23 r28, σ29))))))))
def fX6_image (σ : Hp) (v1 : Int) : Option (Int × Hp) :=
  if fX6_isBelow v1 2 = 0 then some ((-1000001), σ) else if σ 5 0 7 = 0 then some ((-1000002), σ) else gd (0 ≤ v1 ∧ v1 < 2) (cl (fX5_become σ (2 + v1.toNat) 0) (fun _ σ7 => some (1, σ7)))
def fX6_restore (σ : Hp) (v1 : Int) : Option (Int × Hp) :=
  if fX6_isBelow v1 2 = 0 then some ((-1000001), σ) else gd (0 ≤ v1 ∧ v1 < 2) (if σ 5 (2 + v1.toNat) 7 = 0 then some ((-1000002), σ) else gd (0 ≤ v1 ∧ v1 < 2) (cl (fX5_become σ 0 (2 + v1.toNat)) (fun _ σ9 => cl (fX1_forget σ9) (fun _ σ14 => some (1, σ14)))))
def fX6_kind (σ : Hp) (v1 : Int) : Option (Int × Hp) :=
  if fX5_hasTree σ 0 v1 = 0 then some ((-1000001), σ) else gd ((0 : Int) ≤ v1 ∧ v1 < 4) (some (σ 13 0 v1.toNat, σ))
def fX6_as (σ : Hp) (v1 : Int) (v2 : Int) : Option (Int × Hp) :=
  if fX5_hasTree σ 0 v1 = 0 then some ((-1000001), σ) else if fX6_isBelow v2 6 = 0 then some ((-1000001), σ) else gd ((0 : Int) ≤ v1 ∧ v1 < 4) (cl (fX6_isOfKind σ (σ 13 0 v1.toNat) v2) (fun r6 σ7 => if r6 = 0 then cl (fX6_found σ7 3) (fun r12 σ13 => some (r12, σ13)) else cl (fX6_foundNothing σ7 v1) (fun r17 σ18 => some (r17, σ18))))
def fX6_ask (σ : Hp) (v1 : Int) (v2 : Int) : Option (Int × Hp) :=
  if fX5_hasTree σ 0 v1 = 0 then some ((-1000001), σ) else if fX6_isChoice v2 = 0 then some ((-1000001), σ) else sq (hup σ 0 0 1 0) (fun σ5 => if v2 = 0 then cl (fX0_sizeOf σ5 0 v1) (fun r14 σ15 => some (r14, σ15)) else cl (fX0_markOf σ5 0 v1) (fun r9 σ10 => some (r9, σ10)))
def fX6_trace (σ : Hp) (v1 : Int) : Option (Int × Hp) :=
  if fX6_isBelow v1 (σ 0 0 1) = 0 then some ((-1000000), σ) else gd ((0 : Int) ≤ v1 ∧ v1 < 16) (some (σ 8 0 v1.toNat, σ))
def lX6_rowsThere_4 : Nat → Hp → Int → Int → Option (Int × Hp)
  | 0, _, _, _ => none
  | n + 1, σ, v1, v2 =>
    if 8 ≤ v2 then some (v1, σ) else gd (0 ≤ v2 ∧ v2 < 8) (if σ 3 v2.toNat 1 = 0 then lX6_rowsThere_4 n σ (wr (v1 + 0)) (wr (v2 + 1)) else lX6_rowsThere_4 n σ (wr (v1 + 1)) (wr (v2 + 1)))
theorem lX6_rowsThere_4_e0 (n : Nat) (σ : Hp) (v1 : Int) (v2 : Int) : lX6_rowsThere_4 (n + 1) σ v1 v2 =
    if 8 ≤ v2 then some (v1, σ) else gd (0 ≤ v2 ∧ v2 < 8) (if σ 3 v2.toNat 1 = 0 then lX6_rowsThere_4 n σ (wr (v1 + 0)) (wr (v2 + 1)) else lX6_rowsThere_4 n σ (wr (v1 + 1)) (wr (v2 + 1))) := rfl
def fX6_rowsThere (σ : Hp) : Option (Int × Hp) :=
  lX6_rowsThere_4 FU σ 0 0
def fX6_count (σ : Hp) (v1 : Int) : Option (Int × Hp) :=
  if v1 = 0 then cl (fX6_rowsThere σ) (fun r2 σ3 => some (r2, σ3)) else if v1 = 1 then some (σ 5 0 10, σ) else if v1 = 2 then some (σ 5 0 11, σ) else if v1 = 3 then cl (fX5_readable σ 0) (fun r10 σ11 => some (fJ6_bitCount_0f7a4 r10, σ11)) else if v1 = 4 then some (σ 5 0 9, σ) else if v1 = 5 then some (σ 5 0 8, σ) else if v1 = 6 then some (σ 1 0 2, σ) else if v1 = 7 then some (σ 4 0 1, σ) else some ((-1000001), σ)
def fX6_status (σ : Hp) : Int :=
  σ 6 0 9
def fX7_in (v0 : Int) (v1 : Int) (v2 : Int) : Int :=
  if v0 < v1 then 0 else if v2 < v0 then 0 else 1
theorem zX7_in (v0 : Int) (v1 : Int) (v2 : Int) : fX7_in v0 v1 v2 = 0 ∨ fX7_in v0 v1 v2 = 1 := by
  unfold fX7_in
  repeat' split
  all_goals first | exact Or.inl rfl | exact Or.inr rfl | apply Or.inl
def fX7_has (v0 : Int) (v1 : Int) : Int :=
  if qand (qshr v0 v1) 1 = 1 then 1 else 0
theorem zX7_has (v0 : Int) (v1 : Int) : fX7_has v0 v1 = 0 ∨ fX7_has v0 v1 = 1 := by
  unfold fX7_has
  repeat' split
  all_goals first | exact Or.inl rfl | exact Or.inr rfl | apply Or.inl
def lX7_ones_4 : Nat → Hp → Int → Int → Int → Option (Int × Hp)
  | 0, _, _, _, _ => none
  | n + 1, σ, v0, v1, v2 =>
    if 8 ≤ v2 then some (v1, σ) else lX7_ones_4 n σ v0 (wr (v1 + (qand (qshr v0 v2) 1))) (wr (v2 + 1))
theorem lX7_ones_4_e0 (n : Nat) (σ : Hp) (v0 : Int) (v1 : Int) (v2 : Int) : lX7_ones_4 (n + 1) σ v0 v1 v2 =
    if 8 ≤ v2 then some (v1, σ) else lX7_ones_4 n σ v0 (wr (v1 + (qand (qshr v0 v2) 1))) (wr (v2 + 1)) := rfl
def fX7_ones (σ : Hp) (v0 : Int) : Option (Int × Hp) :=
  lX7_ones_4 FU σ v0 0 0
def fX7_found (σ : Hp) (v1 : Int) : Option (Int × Hp) :=
  sq (hup σ 7 0 4 v1) (fun σ1 => some (wr ((-1000010) - v1), σ1))
def fX7_well (σ : Hp) (v1 : Int) : Option (Int × Hp) :=
  sq (hup σ 7 0 4 0) (fun σ1 => some (v1, σ1))
def lX7_copies_3 : Nat → Hp → Nat → Nat → Nat → Nat → Int → Int → Int → Option (Int × Hp)
  | 0, _, _, _, _, _, _, _, _ => none
  | n + 1, σ, s0, j0, s2, j2, v1, v3, v4 =>
    if 48 ≤ v4 then some (0, σ) else gd ((0 : Int) ≤ wr (v1 + v4) ∧ wr (v1 + v4) < (alen s0 : Int)) (gd ((0 : Int) ≤ wr (v3 + v4) ∧ wr (v3 + v4) < (alen s2 : Int)) (sq (hup σ s2 j2 (wr (v3 + v4)).toNat (σ s0 j0 (wr (v1 + v4)).toNat)) (fun σ4 => lX7_copies_3 n σ4 s0 j0 s2 j2 v1 v3 (wr (v4 + 1)))))
theorem lX7_copies_3_e0 (n : Nat) (σ : Hp) (s0 : Nat) (j0 : Nat) (s2 : Nat) (j2 : Nat) (v1 : Int) (v3 : Int) (v4 : Int) : lX7_copies_3 (n + 1) σ s0 j0 s2 j2 v1 v3 v4 =
    if 48 ≤ v4 then some (0, σ) else gd ((0 : Int) ≤ wr (v1 + v4) ∧ wr (v1 + v4) < (alen s0 : Int)) (gd ((0 : Int) ≤ wr (v3 + v4) ∧ wr (v3 + v4) < (alen s2 : Int)) (sq (hup σ s2 j2 (wr (v3 + v4)).toNat (σ s0 j0 (wr (v1 + v4)).toNat)) (fun σ4 => lX7_copies_3 n σ4 s0 j0 s2 j2 v1 v3 (wr (v4 + 1))))) := rfl
def fX7_copies (σ : Hp) (s0 : Nat) (j0 : Nat) (v1 : Int) (s2 : Nat) (j2 : Nat) (v3 : Int) : Option (Int × Hp) :=
  lX7_copies_3 FU σ s0 j0 s2 j2 v1 v3 0
def fX7_isRow (v0 : Int) : Int :=
  fX7_in v0 0 7
theorem zX7_isRow (v0 : Int) : fX7_isRow v0 = 0 ∨ fX7_isRow v0 = 1 := by
  unfold fX7_isRow
  repeat' split
  all_goals first | exact Or.inl rfl | exact Or.inr rfl | apply zX7_in
def fX7_isMissing (σ : Hp) (v1 : Int) : Option (Int × Hp) :=
  gd ((0 : Int) ≤ v1 ∧ v1 < 8) (if σ 22 0 v1.toNat = (-1000000) then some (1, σ) else some (0, σ))
def fX7_cut (v0 : Int) (v1 : Int) : Int :=
  if v0 = 0 then qshr (qshl v1 24) 24 else if v0 = 1 then qshr (qshl v1 16) 16 else v1
def lX7_row_52 : Nat → Hp → Int → Int → Int → Option (Int × Hp)
  | 0, _, _, _, _ => none
  | n + 1, σ, v1, v3, v4 =>
    if 40 ≤ v4 then cl (fX7_well σ v3) (fun r21 σ22 => some (r21, σ22)) else gd ((0 : Int) ≤ wr ((wr (40 * v1)) + v4) ∧ wr ((wr (40 * v1)) + v4) < 320) (sq (hup σ 24 0 (wr ((wr (40 * v1)) + v4)).toNat 0) (fun σ27 => lX7_row_52 n σ27 v1 v3 (wr (v4 + 1))))
theorem lX7_row_52_e0 (n : Nat) (σ : Hp) (v1 : Int) (v3 : Int) (v4 : Int) : lX7_row_52 (n + 1) σ v1 v3 v4 =
    if 40 ≤ v4 then cl (fX7_well σ v3) (fun r21 σ22 => some (r21, σ22)) else gd ((0 : Int) ≤ wr ((wr (40 * v1)) + v4) ∧ wr ((wr (40 * v1)) + v4) < 320) (sq (hup σ 24 0 (wr ((wr (40 * v1)) + v4)).toNat 0) (fun σ27 => lX7_row_52 n σ27 v1 v3 (wr (v4 + 1)))) := rfl
def fX7_row (σ : Hp) (v1 : Int) (v2 : Int) (v3 : Int) : Option (Int × Hp) :=
  if fX7_isRow v1 = 0 then some ((-1000001), σ) else if fX7_in v2 0 2 = 0 then some ((-1000001), σ) else if v3 ≤ 40 then if 0 ≤ v3 then gd ((0 : Int) ≤ v1 ∧ v1 < 8) (sq (hup σ 22 0 v1.toNat v2) (fun σ8 => gd ((0 : Int) ≤ v1 ∧ v1 < 8) (sq (hup σ8 23 0 v1.toNat v3) (fun σ12 => lX7_row_52 FU σ12 v1 v3 0)))) else cl (fX7_found σ 4) (fun r15 σ16 => some (r15, σ16)) else some ((-1000001), σ)
def fX7_set (σ : Hp) (v1 : Int) (v2 : Int) (v3 : Int) : Option (Int × Hp) :=
  if fX7_isRow v1 = 0 then some ((-1000001), σ) else cl (fX7_isMissing σ v1) (fun r3 σ4 => if r3 = 0 then gd ((0 : Int) ≤ v1 ∧ v1 < 8) (if fX7_in v2 0 (wr ((σ4 23 0 v1.toNat) - 1)) = 0 then cl (fX7_found σ4 2) (fun r24 σ25 => some (r24, σ25)) else gd ((0 : Int) ≤ v1 ∧ v1 < 8) (gd ((0 : Int) ≤ wr ((wr (40 * v1)) + v2) ∧ wr ((wr (40 * v1)) + v2) < 320) (sq (hup σ4 24 0 (wr ((wr (40 * v1)) + v2)).toNat (fX7_cut (σ4 22 0 v1.toNat) v3)) (fun σ15 => gd ((0 : Int) ≤ wr ((wr (40 * v1)) + v2) ∧ wr ((wr (40 * v1)) + v2) < 320) (cl (fX7_well σ15 (σ15 24 0 (wr ((wr (40 * v1)) + v2)).toNat)) (fun r19 σ20 => some (r19, σ20))))))) else cl (fX7_found σ4 1) (fun r29 σ30 => some (r29, σ30)))
def fX7_isPart (σ : Hp) (v1 : Int) (v2 : Int) (v3 : Int) : Option (Int × Hp) :=
  if v2 < 0 then some (0, σ) else if v3 < 0 then some (0, σ) else gd ((0 : Int) ≤ v1 ∧ v1 < 8) (if σ 23 0 v1.toNat < v2 then some (0, σ) else gd ((0 : Int) ≤ v1 ∧ v1 < 8) (if wr ((σ 23 0 v1.toNat) - v2) < v3 then some (0, σ) else some (1, σ)))
def lX7_copy_129 : Nat → Hp → Int → Int → Int → Int → Option (Int × Hp)
  | 0, _, _, _, _, _ => none
  | n + 1, σ, v3, v4, v5, v6 =>
    if v5 ≤ v6 then cl (fX7_well σ v5) (fun r64 σ65 => some (r64, σ65)) else gd ((0 : Int) ≤ v6 ∧ v6 < 40) (gd ((0 : Int) ≤ wr ((wr ((wr (40 * v3)) + v4)) + v6) ∧ wr ((wr ((wr (40 * v3)) + v4)) + v6) < 320) (sq (hup σ 24 0 (wr ((wr ((wr (40 * v3)) + v4)) + v6)).toNat (σ 25 0 v6.toNat)) (fun σ71 => lX7_copy_129 n σ71 v3 v4 v5 (wr (v6 + 1)))))
theorem lX7_copy_129_e0 (n : Nat) (σ : Hp) (v3 : Int) (v4 : Int) (v5 : Int) (v6 : Int) : lX7_copy_129 (n + 1) σ v3 v4 v5 v6 =
    if v5 ≤ v6 then cl (fX7_well σ v5) (fun r64 σ65 => some (r64, σ65)) else gd ((0 : Int) ≤ v6 ∧ v6 < 40) (gd ((0 : Int) ≤ wr ((wr ((wr (40 * v3)) + v4)) + v6) ∧ wr ((wr ((wr (40 * v3)) + v4)) + v6) < 320) (sq (hup σ 24 0 (wr ((wr ((wr (40 * v3)) + v4)) + v6)).toNat (σ 25 0 v6.toNat)) (fun σ71 => lX7_copy_129 n σ71 v3 v4 v5 (wr (v6 + 1))))) := rfl
def lX7_copy_92 : Nat → Hp → Int → Int → Int → Int → Int → Int → Option (Int × Hp)
  | 0, _, _, _, _, _, _, _ => none
  | n + 1, σ, v1, v2, v3, v4, v5, v6 =>
    if v5 ≤ v6 then lX7_copy_129 FU σ v3 v4 v5 0 else gd ((0 : Int) ≤ wr ((wr ((wr (40 * v1)) + v2)) + v6) ∧ wr ((wr ((wr (40 * v1)) + v2)) + v6) < 320) (gd ((0 : Int) ≤ v6 ∧ v6 < 40) (sq (hup σ 25 0 v6.toNat (σ 24 0 (wr ((wr ((wr (40 * v1)) + v2)) + v6)).toNat)) (fun σ60 => lX7_copy_92 n σ60 v1 v2 v3 v4 v5 (wr (v6 + 1)))))
theorem lX7_copy_92_e0 (n : Nat) (σ : Hp) (v1 : Int) (v2 : Int) (v3 : Int) (v4 : Int) (v5 : Int) (v6 : Int) : lX7_copy_92 (n + 1) σ v1 v2 v3 v4 v5 v6 =
    if v5 ≤ v6 then lX7_copy_129 FU σ v3 v4 v5 0 else gd ((0 : Int) ≤ wr ((wr ((wr (40 * v1)) + v2)) + v6) ∧ wr ((wr ((wr (40 * v1)) + v2)) + v6) < 320) (gd ((0 : Int) ≤ v6 ∧ v6 < 40) (sq (hup σ 25 0 v6.toNat (σ 24 0 (wr ((wr ((wr (40 * v1)) + v2)) + v6)).toNat)) (fun σ60 => lX7_copy_92 n σ60 v1 v2 v3 v4 v5 (wr (v6 + 1))))) := rfl
def fX7_copy (σ : Hp) (v1 : Int) (v2 : Int) (v3 : Int) (v4 : Int) (v5 : Int) : Option (Int × Hp) :=
  if fX7_isRow v1 = 0 then some ((-1000001), σ) else if fX7_isRow v3 = 0 then some ((-1000001), σ) else cl (fX7_isMissing σ v1) (fun r5 σ6 => if r5 = 0 then cl (fX7_isMissing σ6 v3) (fun r16 σ17 => if r16 = 0 then gd ((0 : Int) ≤ v1 ∧ v1 < 8) (gd ((0 : Int) ≤ v3 ∧ v3 < 8) (if σ17 22 0 v1.toNat = σ17 22 0 v3.toNat then cl (fX7_isPart σ17 v1 v2 v5) (fun r25 σ26 => if r25 = 0 then cl (fX7_found σ26 2) (fun r31 σ32 => some (r31, σ32)) else cl (fX7_isPart σ26 v3 v4 v5) (fun r36 σ37 => if r36 = 0 then cl (fX7_found σ37 2) (fun r42 σ43 => some (r42, σ43)) else lX7_copy_92 FU σ37 v1 v2 v3 v4 v5 0)) else cl (fX7_found σ17 5) (fun r47 σ48 => some (r47, σ48)))) else cl (fX7_found σ17 1) (fun r52 σ53 => some (r52, σ53))) else cl (fX7_found σ6 1) (fun r11 σ12 => some (r11, σ12)))
def fX7_drop (σ : Hp) (v1 : Int) : Option (Int × Hp) :=
  if fX7_isRow v1 = 0 then some ((-1000001), σ) else cl (fX7_isMissing σ v1) (fun r3 σ4 => if r3 = 0 then gd ((0 : Int) ≤ v1 ∧ v1 < 8) (sq (hup σ4 22 0 v1.toNat (-1000000)) (fun σ10 => gd ((0 : Int) ≤ v1 ∧ v1 < 8) (cl (fX7_well σ10 (σ10 23 0 v1.toNat)) (fun r14 σ15 => some (r14, σ15))))) else cl (fX7_found σ4 1) (fun r19 σ20 => some (r19, σ20)))
def fX7_feed (σ : Hp) (v1 : Int) : Option (Int × Hp) :=
  if fX7_in v1 0 255 = 0 then some ((-1000001), σ) else if σ 7 0 6 = 140 then some ((-1000003), σ) else gd ((0 : Int) ≤ σ 7 0 6 ∧ σ 7 0 6 < 140) (sq (hup σ 26 0 (σ 7 0 6).toNat v1) (fun σ5 => sq (hup σ5 7 0 6 (wr ((σ5 7 0 6) + 1))) (fun σ8 => some (σ8 7 0 6, σ8))))
def fX7_byteAt (σ : Hp) (v1 : Int) : Option (Int × Hp) :=
  if σ 7 0 6 ≤ v1 then some ((-1), σ) else gd ((0 : Int) ≤ v1 ∧ v1 < 140) (some (σ 26 0 v1.toNat, σ))
def lX7_advances_38 : Nat → Nat → Hp → Int → Option (Int × Hp)
  | 0, _, _, _ => none
  | n + 1, 0, σ, w0 =>
    cl (fX7_byteAt σ (σ 7 0 9)) (fun r22 σ23 => if fX7_in r22 48 57 = 0 then if 3 ≤ wr ((σ23 7 0 9) - (σ23 7 0 10)) then sq (hup σ23 7 0 11 5) (fun σ30 => some (0, σ30)) else sq (hup σ23 7 0 11 2) (fun σ33 => some (0, σ33)) else if 2 ≤ wr ((σ23 7 0 9) - (σ23 7 0 10)) then lX7_advances_38 n 1 σ23 (σ23 7 0 12) else cl (fX7_byteAt σ23 (σ23 7 0 9)) (fun r37 σ38 => lX7_advances_38 n 1 σ38 (wr ((wr ((wr (10 * (σ23 7 0 12))) + r37)) - 48))))
  | n + 1, _, σ, w0 =>
    sq (hup σ 7 0 12 w0) (fun σ52 => sq (hup σ52 7 0 9 (wr ((σ52 7 0 9) + 1))) (fun σ55 => lX7_advances_38 n 0 σ55 0))
theorem lX7_advances_38_e0 (n : Nat) (σ : Hp) (w0 : Int) : lX7_advances_38 (n + 1) 0 σ w0 =
    cl (fX7_byteAt σ (σ 7 0 9)) (fun r22 σ23 => if fX7_in r22 48 57 = 0 then if 3 ≤ wr ((σ23 7 0 9) - (σ23 7 0 10)) then sq (hup σ23 7 0 11 5) (fun σ30 => some (0, σ30)) else sq (hup σ23 7 0 11 2) (fun σ33 => some (0, σ33)) else if 2 ≤ wr ((σ23 7 0 9) - (σ23 7 0 10)) then lX7_advances_38 n 1 σ23 (σ23 7 0 12) else cl (fX7_byteAt σ23 (σ23 7 0 9)) (fun r37 σ38 => lX7_advances_38 n 1 σ38 (wr ((wr ((wr (10 * (σ23 7 0 12))) + r37)) - 48)))) := rfl
theorem lX7_advances_38_e1 (n : Nat) (σ : Hp) (w0 : Int) : lX7_advances_38 (n + 1) 1 σ w0 =
    sq (hup σ 7 0 12 w0) (fun σ52 => sq (hup σ52 7 0 9 (wr ((σ52 7 0 9) + 1))) (fun σ55 => lX7_advances_38 n 0 σ55 0)) := rfl
def jX7_advances_180 (σ : Hp) (w0 : Int) : Option (Int × Hp) :=
  sq (hup σ 7 0 11 w0) (fun σ42 => if σ42 7 0 11 = 0 then sq (hup σ42 7 0 9 (wr ((σ42 7 0 9) + 0))) (fun σ49 => some (0, σ49)) else sq (hup σ42 7 0 9 (wr ((σ42 7 0 9) + 1))) (fun σ46 => some (0, σ46)))
def fX7_advances (σ : Hp) : Option (Int × Hp) :=
  sq (hup σ 7 0 10 (σ 7 0 9)) (fun σ1 => cl (fX7_byteAt σ1 (σ1 7 0 9)) (fun r4 σ5 => sq (hup σ5 7 0 12 r4) (fun σ9 => if fX7_in r4 48 57 = 0 then if 0 ≤ r4 then if fX7_in r4 97 122 = 0 then if r4 = 44 then jX7_advances_180 σ9 3 else if r4 = 59 then jX7_advances_180 σ9 4 else jX7_advances_180 σ9 5 else jX7_advances_180 σ9 1 else jX7_advances_180 σ9 0 else sq (hup σ9 7 0 12 0) (fun σ19 => lX7_advances_38 FU 0 σ19 0))))
def fX7_isWell (σ : Hp) : Int :=
  if 0 ≤ σ 7 0 8 then 0 else 1
theorem zX7_isWell (σ : Hp) : fX7_isWell σ = 0 ∨ fX7_isWell σ = 1 := by
  unfold fX7_isWell
  repeat' split
  all_goals first | exact Or.inl rfl | exact Or.inr rfl | apply Or.inl
def fX7_takes (σ : Hp) (v1 : Int) (v2 : Int) : Option (Int × Hp) :=
  if fX7_isWell σ = 0 then some (0, σ) else if v1 = 0 then sq (hup σ 7 0 8 (σ 7 0 10)) (fun σ9 => sq (hup σ9 7 0 7 v2) (fun σ12 => some (0, σ12))) else cl (fX7_advances σ) (fun _ σ5 => some (σ 7 0 12, σ5))
def jX7_figure_22 (σ : Hp) (v1 : Int) (v2 : Int) : Option (Int × Hp) :=
  cl (fX7_takes σ (fX7_in (σ 7 0 12) v1 v2) 2) (fun r10 σ11 => some (r10, σ11))
def fX7_figure (σ : Hp) (v1 : Int) (v2 : Int) : Option (Int × Hp) :=
  if fX7_isWell σ = 0 then jX7_figure_22 σ v1 v2 else if σ 7 0 11 = 2 then jX7_figure_22 σ v1 v2 else cl (fX7_takes σ 0 1) (fun r4 σ5 => some (r4, σ5))
def fX7_kindOf (v0 : Int) : Int :=
  if v0 = 98 then 1 else if v0 = 111 then 2 else if v0 = 121 then 3 else if v0 = 112 then 4 else if v0 = 100 then 5 else 0
def jX7_next_14 (σ : Hp) (v1 : Int) (v2 : Int) (w0 : Int) : Option (Int × Hp) :=
  cl (fX7_takes σ w0 1) (fun r2 σ3 => cl (fX7_figure σ3 v1 v2) (fun r7 σ8 => some (r7, σ8)))
def fX7_next (σ : Hp) (v1 : Int) (v2 : Int) : Option (Int × Hp) :=
  if σ 7 0 11 = 3 then jX7_next_14 σ v1 v2 1 else jX7_next_14 σ v1 v2 0
def jX7_readsTree_86 (σ : Hp) (v1 : Int) (v2 : Int) (v3 : Int) (v4 : Int) (w0 : Int) : Option (Int × Hp) :=
  cl (fX7_takes σ w0 1) (fun r20 σ21 => if fX7_isWell σ21 = 0 then some (0, σ21) else gd ((0 : Int) ≤ v2 ∧ v2 < 48) (sq (hup σ21 28 0 v2.toNat v1) (fun σ28 => gd ((0 : Int) ≤ wr (v2 + 1) ∧ wr (v2 + 1) < 48) (sq (hup σ28 28 0 (wr (v2 + 1)).toNat v3) (fun σ32 => gd ((0 : Int) ≤ wr (v2 + 2) ∧ wr (v2 + 2) < 48) (sq (hup σ32 28 0 (wr (v2 + 2)).toNat v4) (fun σ36 => sq (hup σ36 28 0 2 (wr ((σ36 28 0 2) + 1))) (fun σ39 => some (0, σ39)))))))))
def jX7_readsTree_51 (σ : Hp) (v1 : Int) (w0 : Int) (w1 : Int) (w2 : Int) : Option (Int × Hp) :=
  cl (fX7_figure σ 10 90) (fun r9 σ10 => cl (fX7_next σ10 0 9) (fun r14 σ15 => if σ15 7 0 11 = 4 then jX7_readsTree_86 σ15 v1 (wr (w2 + (wr (w1 * w0)))) r9 r14 1 else jX7_readsTree_86 σ15 v1 (wr (w2 + (wr (w1 * w0)))) r9 r14 0))
def jX7_readsTree_24 (σ : Hp) (v1 : Int) (w0 : Int) : Option (Int × Hp) :=
  cl (fX7_takes σ w0 3) (fun r3 σ4 => if 4 ≤ σ4 28 0 2 then jX7_readsTree_51 σ4 v1 0 3 4 else jX7_readsTree_51 σ4 v1 (σ4 28 0 2) 3 4)
def fX7_readsTree (σ : Hp) : Option (Int × Hp) :=
  if 4 ≤ σ 28 0 2 then jX7_readsTree_24 σ (fX7_kindOf (σ 7 0 12)) 0 else jX7_readsTree_24 σ (fX7_kindOf (σ 7 0 12)) 1
def lX7_isCutAt_5 : Nat → Hp → Nat → Nat → Int → Int → Int → Int → Option (Int × Hp)
  | 0, _, _, _, _, _, _, _ => none
  | n + 1, σ, s0, j0, v1, v2, v3, v4 =>
    gd ((0 : Int) ≤ 3 ∧ 3 < (alen s0 : Int)) (if σ s0 j0 3 ≤ v4 then gd (v3 = 0 ∨ v3 = 1) (some (v3, σ)) else if v3 = 0 then gd ((0 : Int) ≤ wr (16 + (wr (4 * v4))) ∧ wr (16 + (wr (4 * v4))) < (alen s0 : Int)) (if σ s0 j0 (wr (16 + (wr (4 * v4)))).toNat = v1 then gd ((0 : Int) ≤ wr ((wr (16 + (wr (4 * v4)))) + 2) ∧ wr ((wr (16 + (wr (4 * v4)))) + 2) < (alen s0 : Int)) (if σ s0 j0 (wr ((wr (16 + (wr (4 * v4)))) + 2)).toNat = v2 then lX7_isCutAt_5 n σ s0 j0 v1 v2 1 (wr (v4 + 1)) else lX7_isCutAt_5 n σ s0 j0 v1 v2 0 (wr (v4 + 1))) else lX7_isCutAt_5 n σ s0 j0 v1 v2 0 (wr (v4 + 1))) else lX7_isCutAt_5 n σ s0 j0 v1 v2 1 (wr (v4 + 1)))
theorem lX7_isCutAt_5_e0 (n : Nat) (σ : Hp) (s0 : Nat) (j0 : Nat) (v1 : Int) (v2 : Int) (v3 : Int) (v4 : Int) : lX7_isCutAt_5 (n + 1) σ s0 j0 v1 v2 v3 v4 =
    gd ((0 : Int) ≤ 3 ∧ 3 < (alen s0 : Int)) (if σ s0 j0 3 ≤ v4 then gd (v3 = 0 ∨ v3 = 1) (some (v3, σ)) else if v3 = 0 then gd ((0 : Int) ≤ wr (16 + (wr (4 * v4))) ∧ wr (16 + (wr (4 * v4))) < (alen s0 : Int)) (if σ s0 j0 (wr (16 + (wr (4 * v4)))).toNat = v1 then gd ((0 : Int) ≤ wr ((wr (16 + (wr (4 * v4)))) + 2) ∧ wr ((wr (16 + (wr (4 * v4)))) + 2) < (alen s0 : Int)) (if σ s0 j0 (wr ((wr (16 + (wr (4 * v4)))) + 2)).toNat = v2 then lX7_isCutAt_5 n σ s0 j0 v1 v2 1 (wr (v4 + 1)) else lX7_isCutAt_5 n σ s0 j0 v1 v2 0 (wr (v4 + 1))) else lX7_isCutAt_5 n σ s0 j0 v1 v2 0 (wr (v4 + 1))) else lX7_isCutAt_5 n σ s0 j0 v1 v2 1 (wr (v4 + 1))) := rfl
def fX7_isCutAt (σ : Hp) (s0 : Nat) (j0 : Nat) (v1 : Int) (v2 : Int) : Option (Int × Hp) :=
  lX7_isCutAt_5 FU σ s0 j0 v1 v2 0 0
def jX7_readsCut_175 (σ : Hp) (v1 : Int) (v2 : Int) (v3 : Int) (v4 : Int) (v5 : Int) (w0 : Int) : Option (Int × Hp) :=
  cl (fX7_takes σ w0 1) (fun r51 σ52 => if fX7_isWell σ52 = 0 then some (0, σ52) else gd ((0 : Int) ≤ v1 ∧ v1 < 48) (sq (hup σ52 28 0 v1.toNat v2) (fun σ59 => gd ((0 : Int) ≤ wr (v1 + 1) ∧ wr (v1 + 1) < 48) (sq (hup σ59 28 0 (wr (v1 + 1)).toNat v3) (fun σ63 => gd ((0 : Int) ≤ wr (v1 + 2) ∧ wr (v1 + 2) < 48) (sq (hup σ63 28 0 (wr (v1 + 2)).toNat v4) (fun σ67 => gd ((0 : Int) ≤ wr (v1 + 3) ∧ wr (v1 + 3) < 48) (sq (hup σ67 28 0 (wr (v1 + 3)).toNat v5) (fun σ71 => sq (hup σ71 28 0 3 (wr ((σ71 28 0 3) + 1))) (fun σ74 => some (0, σ74)))))))))))
def jX7_readsCut_146 (σ : Hp) (v1 : Int) (v2 : Int) (v3 : Int) (w0 : Int) : Option (Int × Hp) :=
  cl (fX7_takes σ w0 2) (fun r40 σ41 => cl (fX7_next σ41 1 20) (fun r45 σ46 => if σ46 7 0 11 = 4 then jX7_readsCut_175 σ46 v1 v2 v3 r40 r45 1 else jX7_readsCut_175 σ46 v1 v2 v3 r40 r45 0))
def jX7_readsCut_112 (σ : Hp) (v1 : Int) (v2 : Int) (v3 : Int) : Option (Int × Hp) :=
  if fX7_in (σ 7 0 12) 0 59 = 0 then jX7_readsCut_146 σ v1 v2 v3 0 else cl (fX7_isCutAt σ 28 0 v2 (σ 7 0 12)) (fun r34 σ35 => if r34 = 0 then jX7_readsCut_146 σ35 v1 v2 v3 1 else jX7_readsCut_146 σ35 v1 v2 v3 0)
def jX7_readsCut_85 (σ : Hp) (v1 : Int) (v2 : Int) (v3 : Int) (w0 : Int) : Option (Int × Hp) :=
  cl (fX7_takes σ w0 1) (fun r19 σ20 => if fX7_isWell σ20 = 0 then jX7_readsCut_112 σ20 v1 v2 v3 else if σ20 7 0 11 = 2 then jX7_readsCut_112 σ20 v1 v2 v3 else cl (fX7_takes σ20 0 1) (fun r27 σ28 => jX7_readsCut_112 σ28 v1 v2 v3))
def jX7_readsCut_46 (σ : Hp) (w0 : Int) (w1 : Int) (w2 : Int) : Option (Int × Hp) :=
  cl (fX7_figure σ 0 (wr ((σ 28 0 2) - 1))) (fun r8 σ9 => cl (fX7_next σ9 0 25) (fun r13 σ14 => if σ14 7 0 11 = 3 then jX7_readsCut_85 σ14 (wr (w2 + (wr (w1 * w0)))) r8 r13 1 else jX7_readsCut_85 σ14 (wr (w2 + (wr (w1 * w0)))) r8 r13 0))
def jX7_readsCut_17 (σ : Hp) (w0 : Int) : Option (Int × Hp) :=
  cl (fX7_takes σ w0 3) (fun r2 σ3 => if 8 ≤ σ3 28 0 3 then jX7_readsCut_46 σ3 0 4 16 else jX7_readsCut_46 σ3 (σ3 28 0 3) 4 16)
def fX7_readsCut (σ : Hp) : Option (Int × Hp) :=
  if 8 ≤ σ 28 0 3 then jX7_readsCut_17 σ 0 else jX7_readsCut_17 σ 1
def jX7_wood_179 (σ : Hp) : Option (Int × Hp) :=
  sq (hup σ 7 0 6 0) (fun σ70 => if fX7_isWell σ70 = 0 then some (wr ((-1000100) - (σ70 7 0 8)), σ70) else cl (fX7_copies σ70 28 0 0 27 0 0) (fun _ σ76 => sq (hup σ76 7 0 16 0) (fun σ80 => some (σ80 27 0 3, σ80))))
def jX7_wood_158 (σ : Hp) : Option (Int × Hp) :=
  if fX7_isWell σ = 0 then jX7_wood_179 σ else if σ 7 0 11 = 0 then jX7_wood_179 σ else cl (fX7_takes σ 0 1) (fun r65 σ66 => jX7_wood_179 σ66)
def lX7_wood_127 : Nat → Hp → Option (Int × Hp)
  | 0, _ => none
  | n + 1, σ =>
    if fX7_isWell σ = 0 then jX7_wood_158 σ else if σ 7 0 11 = 1 then if σ 7 0 12 = 99 then cl (fX7_readsCut σ) (fun _ σ58 => lX7_wood_127 n σ58) else jX7_wood_158 σ else jX7_wood_158 σ
theorem lX7_wood_127_e0 (n : Nat) (σ : Hp) : lX7_wood_127 (n + 1) σ =
    if fX7_isWell σ = 0 then jX7_wood_158 σ else if σ 7 0 11 = 1 then if σ 7 0 12 = 99 then cl (fX7_readsCut σ) (fun _ σ58 => lX7_wood_127 n σ58) else jX7_wood_158 σ else jX7_wood_158 σ := rfl
def lX7_wood_95 : Nat → Hp → Option (Int × Hp)
  | 0, _ => none
  | n + 1, σ =>
    if fX7_isWell σ = 0 then lX7_wood_127 FU σ else if σ 7 0 11 = 1 then if fX7_kindOf (σ 7 0 12) ≤ 0 then lX7_wood_127 FU σ else cl (fX7_readsTree σ) (fun _ σ49 => lX7_wood_95 n σ49) else lX7_wood_127 FU σ
theorem lX7_wood_95_e0 (n : Nat) (σ : Hp) : lX7_wood_95 (n + 1) σ =
    if fX7_isWell σ = 0 then lX7_wood_127 FU σ else if σ 7 0 11 = 1 then if fX7_kindOf (σ 7 0 12) ≤ 0 then lX7_wood_127 FU σ else cl (fX7_readsTree σ) (fun _ σ49 => lX7_wood_95 n σ49) else lX7_wood_127 FU σ := rfl
def jX7_wood_58 (σ : Hp) (w0 : Int) : Option (Int × Hp) :=
  cl (fX7_takes σ w0 1) (fun r19 σ20 => cl (fX7_figure σ20 2 9) (fun r24 σ25 => sq (hup σ25 28 0 0 r24) (fun σ29 => if σ29 7 0 11 = 4 then cl (fX7_takes σ29 1 1) (fun r38 σ39 => lX7_wood_95 FU σ39) else cl (fX7_takes σ29 0 1) (fun r33 σ34 => lX7_wood_95 FU σ34))))
def lX7_wood_2 : Nat → Hp → Int → Option (Int × Hp)
  | 0, _, _ => none
  | n + 1, σ, v1 =>
    if 48 ≤ v1 then sq (hup σ 7 0 9 0) (fun σ2 => sq (hup σ2 7 0 8 (-1)) (fun σ5 => cl (fX7_advances σ5) (fun _ σ9 => if σ9 7 0 11 = 1 then if σ9 7 0 12 = 119 then jX7_wood_58 σ9 1 else jX7_wood_58 σ9 0 else jX7_wood_58 σ9 0))) else gd ((0 : Int) ≤ v1 ∧ v1 < 48) (sq (hup σ 28 0 v1.toNat 0) (fun σ16 => lX7_wood_2 n σ16 (wr (v1 + 1))))
theorem lX7_wood_2_e0 (n : Nat) (σ : Hp) (v1 : Int) : lX7_wood_2 (n + 1) σ v1 =
    if 48 ≤ v1 then sq (hup σ 7 0 9 0) (fun σ2 => sq (hup σ2 7 0 8 (-1)) (fun σ5 => cl (fX7_advances σ5) (fun _ σ9 => if σ9 7 0 11 = 1 then if σ9 7 0 12 = 119 then jX7_wood_58 σ9 1 else jX7_wood_58 σ9 0 else jX7_wood_58 σ9 0))) else gd ((0 : Int) ≤ v1 ∧ v1 < 48) (sq (hup σ 28 0 v1.toNat 0) (fun σ16 => lX7_wood_2 n σ16 (wr (v1 + 1)))) := rfl
def fX7_wood (σ : Hp) : Option (Int × Hp) :=
  lX7_wood_2 FU σ 0
def fX7_fault (σ : Hp) : Int :=
  σ 7 0 7
def fX7_isWood (σ : Hp) : Int :=
  if σ 27 0 0 ≤ 0 then 0 else 1
theorem zX7_isWood (σ : Hp) : fX7_isWood σ = 0 ∨ fX7_isWood σ = 1 := by
  unfold fX7_isWood
  repeat' split
  all_goals first | exact Or.inl rfl | exact Or.inr rfl | apply Or.inl
def fX7_isTree (σ : Hp) (v1 : Int) : Int :=
  fX7_in v1 0 (wr ((σ 27 0 2) - 1))
theorem zX7_isTree (σ : Hp) (v1 : Int) : fX7_isTree σ v1 = 0 ∨ fX7_isTree σ v1 = 1 := by
  unfold fX7_isTree
  repeat' split
  all_goals first | exact Or.inl rfl | exact Or.inr rfl | apply zX7_in
def fX7_isCut (σ : Hp) (v1 : Int) : Int :=
  fX7_in v1 0 (wr ((σ 27 0 3) - 1))
theorem zX7_isCut (σ : Hp) (v1 : Int) : fX7_isCut σ v1 = 0 ∨ fX7_isCut σ v1 = 1 := by
  unfold fX7_isCut
  repeat' split
  all_goals first | exact Or.inl rfl | exact Or.inr rfl | apply zX7_in
def fX7_isFar (v0 : Int) : Int :=
  fX7_in v0 0 50
theorem zX7_isFar (v0 : Int) : fX7_isFar v0 = 0 ∨ fX7_isFar v0 = 1 := by
  unfold fX7_isFar
  repeat' split
  all_goals first | exact Or.inl rfl | exact Or.inr rfl | apply zX7_in
def fX7_ruled (v0 : Int) (v1 : Int) (v2 : Int) : Int :=
  if v0 = 1 then wr (1 + (qdiv v1 3)) else if v0 = 2 then qdiv (wr (1 + (qdiv v1 3))) 2 else if v0 = 3 then if qrem v2 2 = 0 then wr (3 + (qdiv v1 3)) else wr (1 + (qdiv v1 3)) else if v0 = 4 then v1 else 0
def fX7_growth (v0 : Int) (v1 : Int) (v2 : Int) (v3 : Int) : Int :=
  if 999 ≤ wr (v2 + (fX7_ruled v0 v1 v3)) then wr (999 - v2) else fX7_ruled v0 v1 v3
def fX7_heals (v0 : Int) (v1 : Int) (v2 : Int) : Int :=
  if v0 = 2 then if v1 ≤ 0 then 0 else if qrem v2 2 = 1 then 1 else 0 else if v1 ≤ 2 then 0 else 1
theorem zX7_heals (v0 : Int) (v1 : Int) (v2 : Int) : fX7_heals v0 v1 v2 = 0 ∨ fX7_heals v0 v1 v2 = 1 := by
  unfold fX7_heals
  repeat' split
  all_goals first | exact Or.inl rfl | exact Or.inr rfl | apply Or.inl
def lX7_passes_2 : Nat → Nat → Hp → Nat → Nat → Int → Int → Int → Int → Int → Option (Int × Hp)
  | 0, _, _, _, _, _, _, _, _, _ => none
  | n + 1, 0, σ, s0, j0, v1, v2, v3, v4, v5 =>
    gd ((0 : Int) ≤ 2 ∧ 2 < (alen s0 : Int)) (if σ s0 j0 2 ≤ v1 then gd ((0 : Int) ≤ 1 ∧ 1 < (alen s0 : Int)) (gd ((0 : Int) ≤ 1 ∧ 1 < (alen s0 : Int)) (sq (hup σ s0 j0 1 (wr ((σ s0 j0 1) + 1))) (fun σ5 => some (0, σ5)))) else gd ((0 : Int) ≤ wr (4 + (wr (3 * v1))) ∧ wr (4 + (wr (3 * v1))) < (alen s0 : Int)) (gd ((0 : Int) ≤ wr ((wr (4 + (wr (3 * v1)))) + 2) ∧ wr ((wr (4 + (wr (3 * v1)))) + 2) < (alen s0 : Int)) (gd ((0 : Int) ≤ wr ((wr (4 + (wr (3 * v1)))) + 1) ∧ wr ((wr (4 + (wr (3 * v1)))) + 1) < (alen s0 : Int)) (gd ((0 : Int) ≤ 1 ∧ 1 < (alen s0 : Int)) (sq (fX7_growth (σ s0 j0 (wr (4 + (wr (3 * v1)))).toNat) (σ s0 j0 (wr ((wr (4 + (wr (3 * v1)))) + 2)).toNat) (σ s0 j0 (wr ((wr (4 + (wr (3 * v1)))) + 1)).toNat) (σ s0 j0 1)) (fun x13 => gd ((0 : Int) ≤ wr (4 + (wr (3 * v1))) ∧ wr (4 + (wr (3 * v1))) < (alen s0 : Int)) (gd ((0 : Int) ≤ 1 ∧ 1 < (alen s0 : Int)) (lX7_passes_2 n 1 σ s0 j0 v1 (wr (4 + (wr (3 * v1)))) x13 (fX7_heals (σ s0 j0 (wr (4 + (wr (3 * v1)))).toNat) x13 (σ s0 j0 1)) 0))))))))
  | n + 1, _, σ, s0, j0, v1, v2, v3, v4, v5 =>
    gd ((0 : Int) ≤ 3 ∧ 3 < (alen s0 : Int)) (if σ s0 j0 3 ≤ v5 then gd ((0 : Int) ≤ wr (v2 + 1) ∧ wr (v2 + 1) < (alen s0 : Int)) (gd ((0 : Int) ≤ wr (v2 + 1) ∧ wr (v2 + 1) < (alen s0 : Int)) (sq (hup σ s0 j0 (wr (v2 + 1)).toNat (wr ((σ s0 j0 (wr (v2 + 1)).toNat) + v3))) (fun σ22 => lX7_passes_2 n 0 σ22 s0 j0 (wr (v1 + 1)) 0 0 0 0))) else if v4 = 0 then gd ((0 : Int) ≤ wr (v2 + 1) ∧ wr (v2 + 1) < (alen s0 : Int)) (gd ((0 : Int) ≤ wr (v2 + 1) ∧ wr (v2 + 1) < (alen s0 : Int)) (sq (hup σ s0 j0 (wr (v2 + 1)).toNat (wr ((σ s0 j0 (wr (v2 + 1)).toNat) + v3))) (fun σ28 => lX7_passes_2 n 0 σ28 s0 j0 (wr (v1 + 1)) 0 0 0 0))) else gd ((0 : Int) ≤ wr ((wr (16 + (wr (4 * v5)))) + 3) ∧ wr ((wr (16 + (wr (4 * v5)))) + 3) < (alen s0 : Int)) (gd ((0 : Int) ≤ wr (16 + (wr (4 * v5))) ∧ wr (16 + (wr (4 * v5))) < (alen s0 : Int)) (if σ s0 j0 (wr (16 + (wr (4 * v5)))).toNat = v1 then gd ((0 : Int) ≤ wr ((wr (16 + (wr (4 * v5)))) + 3) ∧ wr ((wr (16 + (wr (4 * v5)))) + 3) < (alen s0 : Int)) (if σ s0 j0 (wr ((wr (16 + (wr (4 * v5)))) + 3)).toNat ≤ 0 then gd ((0 : Int) ≤ wr ((wr (16 + (wr (4 * v5)))) + 3) ∧ wr ((wr (16 + (wr (4 * v5)))) + 3) < (alen s0 : Int)) (sq (hup σ s0 j0 (wr ((wr (16 + (wr (4 * v5)))) + 3)).toNat (wr ((σ s0 j0 (wr ((wr (16 + (wr (4 * v5)))) + 3)).toNat) - 0))) (fun σ41 => lX7_passes_2 n 1 σ41 s0 j0 v1 v2 v3 v4 (wr (v5 + 1)))) else gd ((0 : Int) ≤ wr ((wr (16 + (wr (4 * v5)))) + 3) ∧ wr ((wr (16 + (wr (4 * v5)))) + 3) < (alen s0 : Int)) (sq (hup σ s0 j0 (wr ((wr (16 + (wr (4 * v5)))) + 3)).toNat (wr ((σ s0 j0 (wr ((wr (16 + (wr (4 * v5)))) + 3)).toNat) - 1))) (fun σ45 => lX7_passes_2 n 1 σ45 s0 j0 v1 v2 v3 v4 (wr (v5 + 1))))) else gd ((0 : Int) ≤ wr ((wr (16 + (wr (4 * v5)))) + 3) ∧ wr ((wr (16 + (wr (4 * v5)))) + 3) < (alen s0 : Int)) (sq (hup σ s0 j0 (wr ((wr (16 + (wr (4 * v5)))) + 3)).toNat (wr ((σ s0 j0 (wr ((wr (16 + (wr (4 * v5)))) + 3)).toNat) - 0))) (fun σ35 => lX7_passes_2 n 1 σ35 s0 j0 v1 v2 v3 v4 (wr (v5 + 1)))))))
theorem lX7_passes_2_e0 (n : Nat) (σ : Hp) (s0 : Nat) (j0 : Nat) (v1 : Int) (v2 : Int) (v3 : Int) (v4 : Int) (v5 : Int) : lX7_passes_2 (n + 1) 0 σ s0 j0 v1 v2 v3 v4 v5 =
    gd ((0 : Int) ≤ 2 ∧ 2 < (alen s0 : Int)) (if σ s0 j0 2 ≤ v1 then gd ((0 : Int) ≤ 1 ∧ 1 < (alen s0 : Int)) (gd ((0 : Int) ≤ 1 ∧ 1 < (alen s0 : Int)) (sq (hup σ s0 j0 1 (wr ((σ s0 j0 1) + 1))) (fun σ5 => some (0, σ5)))) else gd ((0 : Int) ≤ wr (4 + (wr (3 * v1))) ∧ wr (4 + (wr (3 * v1))) < (alen s0 : Int)) (gd ((0 : Int) ≤ wr ((wr (4 + (wr (3 * v1)))) + 2) ∧ wr ((wr (4 + (wr (3 * v1)))) + 2) < (alen s0 : Int)) (gd ((0 : Int) ≤ wr ((wr (4 + (wr (3 * v1)))) + 1) ∧ wr ((wr (4 + (wr (3 * v1)))) + 1) < (alen s0 : Int)) (gd ((0 : Int) ≤ 1 ∧ 1 < (alen s0 : Int)) (sq (fX7_growth (σ s0 j0 (wr (4 + (wr (3 * v1)))).toNat) (σ s0 j0 (wr ((wr (4 + (wr (3 * v1)))) + 2)).toNat) (σ s0 j0 (wr ((wr (4 + (wr (3 * v1)))) + 1)).toNat) (σ s0 j0 1)) (fun x13 => gd ((0 : Int) ≤ wr (4 + (wr (3 * v1))) ∧ wr (4 + (wr (3 * v1))) < (alen s0 : Int)) (gd ((0 : Int) ≤ 1 ∧ 1 < (alen s0 : Int)) (lX7_passes_2 n 1 σ s0 j0 v1 (wr (4 + (wr (3 * v1)))) x13 (fX7_heals (σ s0 j0 (wr (4 + (wr (3 * v1)))).toNat) x13 (σ s0 j0 1)) 0)))))))) := rfl
theorem lX7_passes_2_e1 (n : Nat) (σ : Hp) (s0 : Nat) (j0 : Nat) (v1 : Int) (v2 : Int) (v3 : Int) (v4 : Int) (v5 : Int) : lX7_passes_2 (n + 1) 1 σ s0 j0 v1 v2 v3 v4 v5 =
    gd ((0 : Int) ≤ 3 ∧ 3 < (alen s0 : Int)) (if σ s0 j0 3 ≤ v5 then gd ((0 : Int) ≤ wr (v2 + 1) ∧ wr (v2 + 1) < (alen s0 : Int)) (gd ((0 : Int) ≤ wr (v2 + 1) ∧ wr (v2 + 1) < (alen s0 : Int)) (sq (hup σ s0 j0 (wr (v2 + 1)).toNat (wr ((σ s0 j0 (wr (v2 + 1)).toNat) + v3))) (fun σ22 => lX7_passes_2 n 0 σ22 s0 j0 (wr (v1 + 1)) 0 0 0 0))) else if v4 = 0 then gd ((0 : Int) ≤ wr (v2 + 1) ∧ wr (v2 + 1) < (alen s0 : Int)) (gd ((0 : Int) ≤ wr (v2 + 1) ∧ wr (v2 + 1) < (alen s0 : Int)) (sq (hup σ s0 j0 (wr (v2 + 1)).toNat (wr ((σ s0 j0 (wr (v2 + 1)).toNat) + v3))) (fun σ28 => lX7_passes_2 n 0 σ28 s0 j0 (wr (v1 + 1)) 0 0 0 0))) else gd ((0 : Int) ≤ wr ((wr (16 + (wr (4 * v5)))) + 3) ∧ wr ((wr (16 + (wr (4 * v5)))) + 3) < (alen s0 : Int)) (gd ((0 : Int) ≤ wr (16 + (wr (4 * v5))) ∧ wr (16 + (wr (4 * v5))) < (alen s0 : Int)) (if σ s0 j0 (wr (16 + (wr (4 * v5)))).toNat = v1 then gd ((0 : Int) ≤ wr ((wr (16 + (wr (4 * v5)))) + 3) ∧ wr ((wr (16 + (wr (4 * v5)))) + 3) < (alen s0 : Int)) (if σ s0 j0 (wr ((wr (16 + (wr (4 * v5)))) + 3)).toNat ≤ 0 then gd ((0 : Int) ≤ wr ((wr (16 + (wr (4 * v5)))) + 3) ∧ wr ((wr (16 + (wr (4 * v5)))) + 3) < (alen s0 : Int)) (sq (hup σ s0 j0 (wr ((wr (16 + (wr (4 * v5)))) + 3)).toNat (wr ((σ s0 j0 (wr ((wr (16 + (wr (4 * v5)))) + 3)).toNat) - 0))) (fun σ41 => lX7_passes_2 n 1 σ41 s0 j0 v1 v2 v3 v4 (wr (v5 + 1)))) else gd ((0 : Int) ≤ wr ((wr (16 + (wr (4 * v5)))) + 3) ∧ wr ((wr (16 + (wr (4 * v5)))) + 3) < (alen s0 : Int)) (sq (hup σ s0 j0 (wr ((wr (16 + (wr (4 * v5)))) + 3)).toNat (wr ((σ s0 j0 (wr ((wr (16 + (wr (4 * v5)))) + 3)).toNat) - 1))) (fun σ45 => lX7_passes_2 n 1 σ45 s0 j0 v1 v2 v3 v4 (wr (v5 + 1))))) else gd ((0 : Int) ≤ wr ((wr (16 + (wr (4 * v5)))) + 3) ∧ wr ((wr (16 + (wr (4 * v5)))) + 3) < (alen s0 : Int)) (sq (hup σ s0 j0 (wr ((wr (16 + (wr (4 * v5)))) + 3)).toNat (wr ((σ s0 j0 (wr ((wr (16 + (wr (4 * v5)))) + 3)).toNat) - 0))) (fun σ35 => lX7_passes_2 n 1 σ35 s0 j0 v1 v2 v3 v4 (wr (v5 + 1))))))) := rfl
def fX7_passes (σ : Hp) (s0 : Nat) (j0 : Nat) : Option (Int × Hp) :=
  lX7_passes_2 FU 0 σ s0 j0 0 0 0 0 0
def lX7_tries_15 : Nat → Hp → Int → Int → Option (Int × Hp)
  | 0, _, _, _ => none
  | n + 1, σ, v1, v2 =>
    if v1 ≤ v2 then some (0, σ) else cl (fX7_passes σ 32 0) (fun _ σ8 => lX7_tries_15 n σ8 v1 (wr (v2 + 1)))
theorem lX7_tries_15_e0 (n : Nat) (σ : Hp) (v1 : Int) (v2 : Int) : lX7_tries_15 (n + 1) σ v1 v2 =
    if v1 ≤ v2 then some (0, σ) else cl (fX7_passes σ 32 0) (fun _ σ8 => lX7_tries_15 n σ8 v1 (wr (v2 + 1))) := rfl
def fX7_tries (σ : Hp) (v1 : Int) : Option (Int × Hp) :=
  cl (fX7_copies σ 27 0 0 32 0 0) (fun _ σ2 => lX7_tries_15 FU σ2 v1 0)
def lX7_legible_4 : Nat → Hp → Nat → Nat → Int → Int → Int → Option (Int × Hp)
  | 0, _, _, _, _, _, _ => none
  | n + 1, σ, s0, j0, v1, v2, v3 =>
    gd ((0 : Int) ≤ 3 ∧ 3 < (alen s0 : Int)) (if σ s0 j0 3 ≤ v3 then some (v2, σ) else gd ((0 : Int) ≤ wr ((wr (16 + (wr (4 * v3)))) + 3) ∧ wr ((wr (16 + (wr (4 * v3)))) + 3) < (alen s0 : Int)) (if σ s0 j0 (wr ((wr (16 + (wr (4 * v3)))) + 3)).toNat ≤ 0 then lX7_legible_4 n σ s0 j0 v1 (qor v2 0) (wr (v3 + 1)) else if v1 = (-1000000) then lX7_legible_4 n σ s0 j0 v1 (qor v2 (qshl 1 v3)) (wr (v3 + 1)) else gd ((0 : Int) ≤ wr (16 + (wr (4 * v3))) ∧ wr (16 + (wr (4 * v3))) < (alen s0 : Int)) (if σ s0 j0 (wr (16 + (wr (4 * v3)))).toNat = v1 then lX7_legible_4 n σ s0 j0 v1 (qor v2 (qshl 1 v3)) (wr (v3 + 1)) else lX7_legible_4 n σ s0 j0 v1 (qor v2 0) (wr (v3 + 1)))))
theorem lX7_legible_4_e0 (n : Nat) (σ : Hp) (s0 : Nat) (j0 : Nat) (v1 : Int) (v2 : Int) (v3 : Int) : lX7_legible_4 (n + 1) σ s0 j0 v1 v2 v3 =
    gd ((0 : Int) ≤ 3 ∧ 3 < (alen s0 : Int)) (if σ s0 j0 3 ≤ v3 then some (v2, σ) else gd ((0 : Int) ≤ wr ((wr (16 + (wr (4 * v3)))) + 3) ∧ wr ((wr (16 + (wr (4 * v3)))) + 3) < (alen s0 : Int)) (if σ s0 j0 (wr ((wr (16 + (wr (4 * v3)))) + 3)).toNat ≤ 0 then lX7_legible_4 n σ s0 j0 v1 (qor v2 0) (wr (v3 + 1)) else if v1 = (-1000000) then lX7_legible_4 n σ s0 j0 v1 (qor v2 (qshl 1 v3)) (wr (v3 + 1)) else gd ((0 : Int) ≤ wr (16 + (wr (4 * v3))) ∧ wr (16 + (wr (4 * v3))) < (alen s0 : Int)) (if σ s0 j0 (wr (16 + (wr (4 * v3)))).toNat = v1 then lX7_legible_4 n σ s0 j0 v1 (qor v2 (qshl 1 v3)) (wr (v3 + 1)) else lX7_legible_4 n σ s0 j0 v1 (qor v2 0) (wr (v3 + 1))))) := rfl
def fX7_legible (σ : Hp) (s0 : Nat) (j0 : Nat) (v1 : Int) : Option (Int × Hp) :=
  lX7_legible_4 FU σ s0 j0 v1 0 0
def jX7_between_32 (σ : Hp) (s0 : Nat) (j0 : Nat) (w0 : Int) : Option (Int × Hp) :=
  if w0 ≤ 30 then some (w0, σ) else some (wr (60 - w0), σ)
def fX7_between (σ : Hp) (s0 : Nat) (j0 : Nat) (v1 : Int) (v2 : Int) : Option (Int × Hp) :=
  gd ((0 : Int) ≤ wr ((wr (16 + (wr (4 * v1)))) + 2) ∧ wr ((wr (16 + (wr (4 * v1)))) + 2) < (alen s0 : Int)) (gd ((0 : Int) ≤ wr ((wr (16 + (wr (4 * v2)))) + 2) ∧ wr ((wr (16 + (wr (4 * v2)))) + 2) < (alen s0 : Int)) (if 0 ≤ wr ((σ s0 j0 (wr ((wr (16 + (wr (4 * v1)))) + 2)).toNat) - (σ s0 j0 (wr ((wr (16 + (wr (4 * v2)))) + 2)).toNat)) then jX7_between_32 σ s0 j0 (wr ((σ s0 j0 (wr ((wr (16 + (wr (4 * v1)))) + 2)).toNat) - (σ s0 j0 (wr ((wr (16 + (wr (4 * v2)))) + 2)).toNat))) else jX7_between_32 σ s0 j0 (wr (-(wr ((σ s0 j0 (wr ((wr (16 + (wr (4 * v1)))) + 2)).toNat) - (σ s0 j0 (wr ((wr (16 + (wr (4 * v2)))) + 2)).toNat)))))))
def fX7_apartIn (σ : Hp) (s0 : Nat) (j0 : Nat) (v1 : Int) (v2 : Int) : Option (Int × Hp) :=
  cl (fX7_between σ s0 j0 v1 v2) (fun r1 σ2 => gd ((0 : Int) ≤ wr (16 + (wr (4 * v1))) ∧ wr (16 + (wr (4 * v1))) < (alen s0 : Int)) (gd ((0 : Int) ≤ wr ((wr (4 + (wr (3 * (σ2 s0 j0 (wr (16 + (wr (4 * v1)))).toNat))))) + 1) ∧ wr ((wr (4 + (wr (3 * (σ2 s0 j0 (wr (16 + (wr (4 * v1)))).toNat))))) + 1) < (alen s0 : Int)) (some (qdiv (wr (r1 * (σ2 s0 j0 (wr ((wr (4 + (wr (3 * (σ2 s0 j0 (wr (16 + (wr (4 * v1)))).toNat))))) + 1)).toNat))) 60, σ2))))
def lX7_ringOf_19 : Nat → Nat → Hp → Nat → Nat → Int → Int → Int → Int → Int → Option (Int × Hp)
  | 0, _, _, _, _, _, _, _, _, _ => none
  | n + 1, 0, σ, s0, j0, v2, v3, v4, v5, v6 =>
    if v3 = v4 then some (v3, σ) else lX7_ringOf_19 n 1 σ s0 j0 v2 v3 v3 0 0
  | n + 1, 1, σ, s0, j0, v2, v3, v4, v5, v6 =>
    gd ((0 : Int) ≤ 3 ∧ 3 < (alen s0 : Int)) (if σ s0 j0 3 ≤ v5 then lX7_ringOf_19 n 0 σ s0 j0 v2 v3 v4 0 0 else lX7_ringOf_19 n 2 σ s0 j0 v2 v3 v4 v5 0)
  | n + 1, _, σ, s0, j0, v2, v3, v4, v5, v6 =>
    gd ((0 : Int) ≤ 3 ∧ 3 < (alen s0 : Int)) (if σ s0 j0 3 ≤ v6 then lX7_ringOf_19 n 1 σ s0 j0 v2 v3 v4 (wr (v5 + 1)) 0 else if fX7_has v3 v5 = 0 then lX7_ringOf_19 n 2 σ s0 j0 v2 (qor v3 0) v4 v5 (wr (v6 + 1)) else if fX7_has v2 v6 = 0 then lX7_ringOf_19 n 2 σ s0 j0 v2 (qor v3 0) v4 v5 (wr (v6 + 1)) else cl (fX7_apartIn σ s0 j0 v5 v6) (fun r12 σ13 => gd ((0 : Int) ≤ 0 ∧ 0 < (alen s0 : Int)) (if σ13 s0 j0 0 < r12 then lX7_ringOf_19 n 2 σ13 s0 j0 v2 (qor v3 0) v4 v5 (wr (v6 + 1)) else lX7_ringOf_19 n 2 σ13 s0 j0 v2 (qor v3 (qshl 1 v6)) v4 v5 (wr (v6 + 1)))))
theorem lX7_ringOf_19_e0 (n : Nat) (σ : Hp) (s0 : Nat) (j0 : Nat) (v2 : Int) (v3 : Int) (v4 : Int) (v5 : Int) (v6 : Int) : lX7_ringOf_19 (n + 1) 0 σ s0 j0 v2 v3 v4 v5 v6 =
    if v3 = v4 then some (v3, σ) else lX7_ringOf_19 n 1 σ s0 j0 v2 v3 v3 0 0 := rfl
theorem lX7_ringOf_19_e1 (n : Nat) (σ : Hp) (s0 : Nat) (j0 : Nat) (v2 : Int) (v3 : Int) (v4 : Int) (v5 : Int) (v6 : Int) : lX7_ringOf_19 (n + 1) 1 σ s0 j0 v2 v3 v4 v5 v6 =
    gd ((0 : Int) ≤ 3 ∧ 3 < (alen s0 : Int)) (if σ s0 j0 3 ≤ v5 then lX7_ringOf_19 n 0 σ s0 j0 v2 v3 v4 0 0 else lX7_ringOf_19 n 2 σ s0 j0 v2 v3 v4 v5 0) := rfl
theorem lX7_ringOf_19_e2 (n : Nat) (σ : Hp) (s0 : Nat) (j0 : Nat) (v2 : Int) (v3 : Int) (v4 : Int) (v5 : Int) (v6 : Int) : lX7_ringOf_19 (n + 1) 2 σ s0 j0 v2 v3 v4 v5 v6 =
    gd ((0 : Int) ≤ 3 ∧ 3 < (alen s0 : Int)) (if σ s0 j0 3 ≤ v6 then lX7_ringOf_19 n 1 σ s0 j0 v2 v3 v4 (wr (v5 + 1)) 0 else if fX7_has v3 v5 = 0 then lX7_ringOf_19 n 2 σ s0 j0 v2 (qor v3 0) v4 v5 (wr (v6 + 1)) else if fX7_has v2 v6 = 0 then lX7_ringOf_19 n 2 σ s0 j0 v2 (qor v3 0) v4 v5 (wr (v6 + 1)) else cl (fX7_apartIn σ s0 j0 v5 v6) (fun r12 σ13 => gd ((0 : Int) ≤ 0 ∧ 0 < (alen s0 : Int)) (if σ13 s0 j0 0 < r12 then lX7_ringOf_19 n 2 σ13 s0 j0 v2 (qor v3 0) v4 v5 (wr (v6 + 1)) else lX7_ringOf_19 n 2 σ13 s0 j0 v2 (qor v3 (qshl 1 v6)) v4 v5 (wr (v6 + 1))))) := rfl
def fX7_ringOf (σ : Hp) (s0 : Nat) (j0 : Nat) (v1 : Int) (v2 : Int) : Option (Int × Hp) :=
  if fX7_has v2 v1 = 0 then lX7_ringOf_19 FU 0 σ s0 j0 v2 0 0 0 0 else lX7_ringOf_19 FU 0 σ s0 j0 v2 (qshl 1 v1) 0 0 0
def fX7_areTogether (σ : Hp) (s0 : Nat) (j0 : Nat) (v1 : Int) (v2 : Int) (v3 : Int) : Option (Int × Hp) :=
  gd ((0 : Int) ≤ wr (16 + (wr (4 * v1))) ∧ wr (16 + (wr (4 * v1))) < (alen s0 : Int)) (cl (fX7_legible σ s0 j0 (σ s0 j0 (wr (16 + (wr (4 * v1)))).toNat)) (fun r2 σ3 => cl (fX7_ringOf σ3 s0 j0 v1 (qand r2 (qxor v3 (-1)))) (fun r7 σ8 => some (fX7_has r7 v2, σ8))))
def jX7_notes_49 (σ : Hp) : Option (Int × Hp) :=
  cl (fX7_copies σ 27 0 0 29 0 (wr (48 * (σ 7 0 16)))) (fun _ σ12 => sq (hup σ12 7 0 16 (wr ((σ12 7 0 16) + 1))) (fun σ16 => some (0, σ16)))
def lX7_notes_11 : Nat → Hp → Int → Option (Int × Hp)
  | 0, _, _ => none
  | n + 1, σ, v1 =>
    if 1104 ≤ v1 then sq (hup σ 7 0 16 (wr ((σ 7 0 16) - 1))) (fun σ3 => jX7_notes_49 σ3) else gd ((0 : Int) ≤ wr (v1 + 48) ∧ wr (v1 + 48) < 1152) (gd ((0 : Int) ≤ v1 ∧ v1 < 1152) (sq (hup σ 29 0 v1.toNat (σ 29 0 (wr (v1 + 48)).toNat)) (fun σ8 => lX7_notes_11 n σ8 (wr (v1 + 1)))))
theorem lX7_notes_11_e0 (n : Nat) (σ : Hp) (v1 : Int) : lX7_notes_11 (n + 1) σ v1 =
    if 1104 ≤ v1 then sq (hup σ 7 0 16 (wr ((σ 7 0 16) - 1))) (fun σ3 => jX7_notes_49 σ3) else gd ((0 : Int) ≤ wr (v1 + 48) ∧ wr (v1 + 48) < 1152) (gd ((0 : Int) ≤ v1 ∧ v1 < 1152) (sq (hup σ 29 0 v1.toNat (σ 29 0 (wr (v1 + 48)).toNat)) (fun σ8 => lX7_notes_11 n σ8 (wr (v1 + 1))))) := rfl
def fX7_notes (σ : Hp) : Option (Int × Hp) :=
  if σ 7 0 16 = 24 then lX7_notes_11 FU σ 0 else jX7_notes_49 σ
def lX7_years_42 : Nat → Hp → Int → Int → Option (Int × Hp)
  | 0, _, _, _ => none
  | n + 1, σ, v1, v2 =>
    if v1 ≤ v2 then cl (fX7_legible σ 27 0 (-1000000)) (fun r7 σ8 => cl (fX7_ones σ8 r7) (fun r12 σ13 => some (r12, σ13))) else cl (fX7_notes σ) (fun _ σ18 => cl (fX7_passes σ18 27 0) (fun _ σ23 => lX7_years_42 n σ23 v1 (wr (v2 + 1))))
theorem lX7_years_42_e0 (n : Nat) (σ : Hp) (v1 : Int) (v2 : Int) : lX7_years_42 (n + 1) σ v1 v2 =
    if v1 ≤ v2 then cl (fX7_legible σ 27 0 (-1000000)) (fun r7 σ8 => cl (fX7_ones σ8 r7) (fun r12 σ13 => some (r12, σ13))) else cl (fX7_notes σ) (fun _ σ18 => cl (fX7_passes σ18 27 0) (fun _ σ23 => lX7_years_42 n σ23 v1 (wr (v2 + 1)))) := rfl
def fX7_years (σ : Hp) (v1 : Int) : Option (Int × Hp) :=
  if fX7_isWood σ = 0 then some ((-1000002), σ) else if fX7_in v1 1 20 = 0 then some ((-1000001), σ) else if wr ((σ 27 0 1) + v1) ≤ 999 then lX7_years_42 FU σ v1 0 else some ((-1000003), σ)
def fX7_cut_ (σ : Hp) (v1 : Int) (v2 : Int) (v3 : Int) (v4 : Int) : Option (Int × Hp) :=
  if fX7_isTree σ v1 = 0 then some ((-1000001), σ) else if fX7_in v2 0 25 = 0 then some ((-1000001), σ) else if fX7_in v3 0 59 = 0 then some ((-1000001), σ) else if fX7_in v4 1 20 = 0 then some ((-1000001), σ) else cl (fX7_isCutAt σ 27 0 v1 v3) (fun r9 σ10 => if r9 = 0 then if σ10 27 0 3 = 8 then some ((-1000003), σ10) else cl (fX7_notes σ10) (fun _ σ17 => gd ((0 : Int) ≤ wr (16 + (wr (4 * (σ17 27 0 3)))) ∧ wr (16 + (wr (4 * (σ17 27 0 3)))) < 48) (sq (hup σ17 27 0 (wr (16 + (wr (4 * (σ17 27 0 3))))).toNat v1) (fun σ22 => gd ((0 : Int) ≤ wr ((wr (16 + (wr (4 * (σ17 27 0 3))))) + 1) ∧ wr ((wr (16 + (wr (4 * (σ17 27 0 3))))) + 1) < 48) (sq (hup σ22 27 0 (wr ((wr (16 + (wr (4 * (σ17 27 0 3))))) + 1)).toNat v2) (fun σ26 => gd ((0 : Int) ≤ wr ((wr (16 + (wr (4 * (σ17 27 0 3))))) + 2) ∧ wr ((wr (16 + (wr (4 * (σ17 27 0 3))))) + 2) < 48) (sq (hup σ26 27 0 (wr ((wr (16 + (wr (4 * (σ17 27 0 3))))) + 2)).toNat v3) (fun σ30 => gd ((0 : Int) ≤ wr ((wr (16 + (wr (4 * (σ17 27 0 3))))) + 3) ∧ wr ((wr (16 + (wr (4 * (σ17 27 0 3))))) + 3) < 48) (sq (hup σ30 27 0 (wr ((wr (16 + (wr (4 * (σ17 27 0 3))))) + 3)).toNat v4) (fun σ34 => sq (hup σ34 27 0 3 (wr ((σ34 27 0 3) + 1))) (fun σ37 => some (wr ((σ37 27 0 3) - 1), σ37))))))))))) else some ((-1000002), σ10))
def fX7_anew (σ : Hp) (v1 : Int) (v2 : Int) : Option (Int × Hp) :=
  if fX7_isCut σ v1 = 0 then some ((-1000001), σ) else if fX7_in v2 1 20 = 0 then some ((-1000001), σ) else gd ((0 : Int) ≤ wr ((wr (16 + (wr (4 * v1)))) + 3) ∧ wr ((wr (16 + (wr (4 * v1)))) + 3) < 48) (if σ 27 0 (wr ((wr (16 + (wr (4 * v1)))) + 3)).toNat = 0 then some ((-1000002), σ) else cl (fX7_notes σ) (fun _ σ8 => gd ((0 : Int) ≤ wr ((wr (16 + (wr (4 * v1)))) + 3) ∧ wr ((wr (16 + (wr (4 * v1)))) + 3) < 48) (sq (hup σ8 27 0 (wr ((wr (16 + (wr (4 * v1)))) + 3)).toNat v2) (fun σ13 => some (σ 27 0 (wr ((wr (16 + (wr (4 * v1)))) + 3)).toNat, σ13)))))
def lX7_scrape_22 : Nat → Hp → Int → Option (Int × Hp)
  | 0, _, _ => none
  | n + 1, σ, v2 =>
    if 48 ≤ v2 then sq (hup σ 27 0 3 (wr ((σ 27 0 3) - 1))) (fun σ9 => some (σ9 27 0 3, σ9)) else if 48 ≤ wr (v2 + 4) then gd ((0 : Int) ≤ v2 ∧ v2 < 48) (sq (hup σ 27 0 v2.toNat 0) (fun σ14 => lX7_scrape_22 n σ14 (wr (v2 + 1)))) else gd ((0 : Int) ≤ wr (v2 + 4) ∧ wr (v2 + 4) < 48) (gd ((0 : Int) ≤ v2 ∧ v2 < 48) (sq (hup σ 27 0 v2.toNat (σ 27 0 (wr (v2 + 4)).toNat)) (fun σ19 => lX7_scrape_22 n σ19 (wr (v2 + 1)))))
theorem lX7_scrape_22_e0 (n : Nat) (σ : Hp) (v2 : Int) : lX7_scrape_22 (n + 1) σ v2 =
    if 48 ≤ v2 then sq (hup σ 27 0 3 (wr ((σ 27 0 3) - 1))) (fun σ9 => some (σ9 27 0 3, σ9)) else if 48 ≤ wr (v2 + 4) then gd ((0 : Int) ≤ v2 ∧ v2 < 48) (sq (hup σ 27 0 v2.toNat 0) (fun σ14 => lX7_scrape_22 n σ14 (wr (v2 + 1)))) else gd ((0 : Int) ≤ wr (v2 + 4) ∧ wr (v2 + 4) < 48) (gd ((0 : Int) ≤ v2 ∧ v2 < 48) (sq (hup σ 27 0 v2.toNat (σ 27 0 (wr (v2 + 4)).toNat)) (fun σ19 => lX7_scrape_22 n σ19 (wr (v2 + 1))))) := rfl
def fX7_scrape (σ : Hp) (v1 : Int) : Option (Int × Hp) :=
  if fX7_isCut σ v1 = 0 then some ((-1000001), σ) else cl (fX7_notes σ) (fun _ σ4 => lX7_scrape_22 FU σ4 (wr (16 + (wr (4 * v1)))))
def fX7_undo (σ : Hp) : Option (Int × Hp) :=
  if σ 7 0 16 = 0 then some ((-1000002), σ) else sq (hup σ 7 0 16 (wr ((σ 7 0 16) - 1))) (fun σ2 => cl (fX7_copies σ2 29 0 (wr (48 * (σ2 7 0 16))) 27 0 0) (fun _ σ6 => some (σ6 7 0 16, σ6)))
def fX7_tree (σ : Hp) (v1 : Int) (v2 : Int) : Option (Int × Hp) :=
  if fX7_isTree σ v1 = 0 then some ((-1000001), σ) else if v2 = 0 then gd ((0 : Int) ≤ wr ((wr (4 + (wr (3 * v1)))) + 1) ∧ wr ((wr (4 + (wr (3 * v1)))) + 1) < 48) (some (σ 27 0 (wr ((wr (4 + (wr (3 * v1)))) + 1)).toNat, σ)) else if v2 = 1 then gd ((0 : Int) ≤ wr ((wr (4 + (wr (3 * v1)))) + 2) ∧ wr ((wr (4 + (wr (3 * v1)))) + 2) < 48) (some (σ 27 0 (wr ((wr (4 + (wr (3 * v1)))) + 2)).toNat, σ)) else if v2 = 2 then cl (fX7_legible σ 27 0 v1) (fun r8 σ9 => some (r8, σ9)) else if v2 = 3 then gd ((0 : Int) ≤ wr (4 + (wr (3 * v1))) ∧ wr (4 + (wr (3 * v1))) < 48) (gd ((0 : Int) ≤ wr ((wr (4 + (wr (3 * v1)))) + 2) ∧ wr ((wr (4 + (wr (3 * v1)))) + 2) < 48) (gd ((0 : Int) ≤ wr ((wr (4 + (wr (3 * v1)))) + 1) ∧ wr ((wr (4 + (wr (3 * v1)))) + 1) < 48) (some (fX7_growth (σ 27 0 (wr (4 + (wr (3 * v1)))).toNat) (σ 27 0 (wr ((wr (4 + (wr (3 * v1)))) + 2)).toNat) (σ 27 0 (wr ((wr (4 + (wr (3 * v1)))) + 1)).toNat) (σ 27 0 1), σ)))) else some ((-1000001), σ)
def fX7_cutHas (σ : Hp) (v1 : Int) (v2 : Int) : Option (Int × Hp) :=
  if fX7_isCut σ v1 = 0 then some ((-1000001), σ) else if fX7_in v2 0 3 = 0 then some ((-1000001), σ) else gd ((0 : Int) ≤ wr ((wr (16 + (wr (4 * v1)))) + v2) ∧ wr ((wr (16 + (wr (4 * v1)))) + v2) < 48) (some (σ 27 0 (wr ((wr (16 + (wr (4 * v1)))) + v2)).toNat, σ))
def fX7_areOfOne (σ : Hp) (v1 : Int) (v2 : Int) : Option (Int × Hp) :=
  if fX7_isCut σ v1 = 0 then some (0, σ) else if fX7_isCut σ v2 = 0 then some (0, σ) else if v1 = v2 then some (0, σ) else gd ((0 : Int) ≤ wr (16 + (wr (4 * v1))) ∧ wr (16 + (wr (4 * v1))) < 48) (gd ((0 : Int) ≤ wr (16 + (wr (4 * v2))) ∧ wr (16 + (wr (4 * v2))) < 48) (if σ 27 0 (wr (16 + (wr (4 * v1)))).toNat = σ 27 0 (wr (16 + (wr (4 * v2)))).toNat then some (1, σ) else some (0, σ)))
def jX7_apart_70 (σ : Hp) (v1 : Int) (v2 : Int) (w0 : Int) : Option (Int × Hp) :=
  if w0 = 0 then some ((-1000000), σ) else cl (fX7_apartIn σ 27 0 v1 v2) (fun r17 σ18 => some (r17, σ18))
def fX7_apart (σ : Hp) (v1 : Int) (v2 : Int) : Option (Int × Hp) :=
  if fX7_isCut σ v1 = 0 then some ((-1000001), σ) else if fX7_isCut σ v2 = 0 then some ((-1000001), σ) else if v1 = v2 then some ((-1000001), σ) else cl (fX7_areOfOne σ v1 v2) (fun r6 σ7 => if r6 = 0 then jX7_apart_70 σ7 v1 v2 0 else gd ((0 : Int) ≤ wr ((wr (16 + (wr (4 * v1)))) + 3) ∧ wr ((wr (16 + (wr (4 * v1)))) + 3) < 48) (if σ7 27 0 (wr ((wr (16 + (wr (4 * v1)))) + 3)).toNat ≤ 0 then jX7_apart_70 σ7 v1 v2 0 else gd ((0 : Int) ≤ wr ((wr (16 + (wr (4 * v2)))) + 3) ∧ wr ((wr (16 + (wr (4 * v2)))) + 3) < 48) (if σ7 27 0 (wr ((wr (16 + (wr (4 * v2)))) + 3)).toNat ≤ 0 then jX7_apart_70 σ7 v1 v2 0 else jX7_apart_70 σ7 v1 v2 1)))
def fX7_together (σ : Hp) (v1 : Int) (v2 : Int) : Option (Int × Hp) :=
  cl (fX7_areOfOne σ v1 v2) (fun r1 σ2 => if r1 = 0 then some ((-1000001), σ2) else cl (fX7_areTogether σ2 27 0 v1 v2 0) (fun r7 σ8 => if r7 = 0 then some (0, σ8) else some (1, σ8)))
def fX7_girth (σ : Hp) (v1 : Int) (v2 : Int) : Option (Int × Hp) :=
  if fX7_isTree σ v1 = 0 then some ((-1000001), σ) else if fX7_isFar v2 = 0 then some ((-1000001), σ) else cl (fX7_tries σ v2) (fun _ σ6 => gd ((0 : Int) ≤ wr ((wr (4 + (wr (3 * v1)))) + 1) ∧ wr ((wr (4 + (wr (3 * v1)))) + 1) < 48) (some (σ6 32 0 (wr ((wr (4 + (wr (3 * v1)))) + 1)).toNat, σ6)))
def fX7_left (σ : Hp) (v1 : Int) : Option (Int × Hp) :=
  if fX7_isWood σ = 0 then some ((-1000002), σ) else if fX7_isFar v1 = 0 then some ((-1000001), σ) else cl (fX7_tries σ v1) (fun _ σ6 => cl (fX7_legible σ6 32 0 (-1000000)) (fun r10 σ11 => some (r10, σ11)))
def lX7_free_19 : Nat → Hp → Int → Int → Int → Option (Int × Hp)
  | 0, _, _, _, _ => none
  | n + 1, σ, v1, v2, v3 =>
    if 51 ≤ v3 then some ((-1000000), σ) else cl (fX7_areTogether σ 32 0 v1 v2 0) (fun r13 σ14 => if r13 = 0 then some (v3, σ14) else cl (fX7_passes σ14 32 0) (fun _ σ20 => lX7_free_19 n σ20 v1 v2 (wr (v3 + 1))))
theorem lX7_free_19_e0 (n : Nat) (σ : Hp) (v1 : Int) (v2 : Int) (v3 : Int) : lX7_free_19 (n + 1) σ v1 v2 v3 =
    if 51 ≤ v3 then some ((-1000000), σ) else cl (fX7_areTogether σ 32 0 v1 v2 0) (fun r13 σ14 => if r13 = 0 then some (v3, σ14) else cl (fX7_passes σ14 32 0) (fun _ σ20 => lX7_free_19 n σ20 v1 v2 (wr (v3 + 1)))) := rfl
def fX7_free (σ : Hp) (v1 : Int) (v2 : Int) : Option (Int × Hp) :=
  cl (fX7_areOfOne σ v1 v2) (fun r1 σ2 => if r1 = 0 then some ((-1000001), σ2) else cl (fX7_tries σ2 0) (fun _ σ8 => lX7_free_19 FU σ8 v1 v2 0))
def lX7_depthIn_24 : Nat → Hp → Int → Int → Int → Int → Int → Option (Int × Hp)
  | 0, _, _, _, _, _, _ => none
  | n + 1, σ, v3, v4, v5, v6, v7 =>
    if v3 ≤ v7 then some (v5, σ) else if v5 ≤ 0 then some (v5, σ) else gd ((0 : Int) ≤ v4 ∧ v4 < 48) (gd ((0 : Int) ≤ wr (v4 + 2) ∧ wr (v4 + 2) < 48) (gd ((0 : Int) ≤ v4 ∧ v4 < 48) (if fX7_heals (σ 27 0 v4.toNat) (fX7_growth (σ 27 0 v4.toNat) (σ 27 0 (wr (v4 + 2)).toNat) v6 (wr ((σ 27 0 1) + v7))) (wr ((σ 27 0 1) + v7)) = 0 then lX7_depthIn_24 n σ v3 v4 (wr (v5 - 0)) (wr (v6 + (fX7_growth (σ 27 0 v4.toNat) (σ 27 0 (wr (v4 + 2)).toNat) v6 (wr ((σ 27 0 1) + v7))))) (wr (v7 + 1)) else lX7_depthIn_24 n σ v3 v4 (wr (v5 - 1)) (wr (v6 + (fX7_growth (σ 27 0 v4.toNat) (σ 27 0 (wr (v4 + 2)).toNat) v6 (wr ((σ 27 0 1) + v7))))) (wr (v7 + 1)))))
theorem lX7_depthIn_24_e0 (n : Nat) (σ : Hp) (v3 : Int) (v4 : Int) (v5 : Int) (v6 : Int) (v7 : Int) : lX7_depthIn_24 (n + 1) σ v3 v4 v5 v6 v7 =
    if v3 ≤ v7 then some (v5, σ) else if v5 ≤ 0 then some (v5, σ) else gd ((0 : Int) ≤ v4 ∧ v4 < 48) (gd ((0 : Int) ≤ wr (v4 + 2) ∧ wr (v4 + 2) < 48) (gd ((0 : Int) ≤ v4 ∧ v4 < 48) (if fX7_heals (σ 27 0 v4.toNat) (fX7_growth (σ 27 0 v4.toNat) (σ 27 0 (wr (v4 + 2)).toNat) v6 (wr ((σ 27 0 1) + v7))) (wr ((σ 27 0 1) + v7)) = 0 then lX7_depthIn_24 n σ v3 v4 (wr (v5 - 0)) (wr (v6 + (fX7_growth (σ 27 0 v4.toNat) (σ 27 0 (wr (v4 + 2)).toNat) v6 (wr ((σ 27 0 1) + v7))))) (wr (v7 + 1)) else lX7_depthIn_24 n σ v3 v4 (wr (v5 - 1)) (wr (v6 + (fX7_growth (σ 27 0 v4.toNat) (σ 27 0 (wr (v4 + 2)).toNat) v6 (wr ((σ 27 0 1) + v7))))) (wr (v7 + 1))))) := rfl
def fX7_depthIn (σ : Hp) (v1 : Int) (v2 : Int) (v3 : Int) : Option (Int × Hp) :=
  gd ((0 : Int) ≤ wr ((wr (4 + (wr (3 * v1)))) + 1) ∧ wr ((wr (4 + (wr (3 * v1)))) + 1) < 48) (lX7_depthIn_24 FU σ v3 (wr (4 + (wr (3 * v1)))) v2 (σ 27 0 (wr ((wr (4 + (wr (3 * v1)))) + 1)).toNat) 0)
def lX7_holds_51 : Nat → Nat → Hp → Int → Int → Int → Int → Int → Int → Option (Int × Hp)
  | 0, _, _, _, _, _, _, _, _ => none
  | n + 1, 0, σ, v1, v2, v3, v4, v5, w0 =>
    if σ 27 0 2 ≤ v5 then some (v4, σ) else gd ((0 : Int) ≤ wr ((wr (4 + (wr (3 * v5)))) + 1) ∧ wr ((wr (4 + (wr (3 * v5)))) + 1) < 48) (if σ 27 0 0 < qdiv (wr (v1 * (σ 32 0 (wr ((wr (4 + (wr (3 * v5)))) + 1)).toNat))) 60 then lX7_holds_51 n 1 σ v1 v2 v3 v4 v5 0 else lX7_holds_51 n 1 σ v1 v2 v3 v4 v5 1)
  | n + 1, _, σ, v1, v2, v3, v4, v5, w0 =>
    if w0 = 0 then lX7_holds_51 n 0 σ v1 v2 v3 (qor v4 0) (wr (v5 + 1)) 0 else cl (fX7_depthIn σ v5 v2 v3) (fun r18 σ19 => if r18 ≤ 0 then lX7_holds_51 n 0 σ19 v1 v2 v3 (qor v4 0) (wr (v5 + 1)) 0 else lX7_holds_51 n 0 σ19 v1 v2 v3 (qor v4 (qshl 1 v5)) (wr (v5 + 1)) 0)
theorem lX7_holds_51_e0 (n : Nat) (σ : Hp) (v1 : Int) (v2 : Int) (v3 : Int) (v4 : Int) (v5 : Int) (w0 : Int) : lX7_holds_51 (n + 1) 0 σ v1 v2 v3 v4 v5 w0 =
    if σ 27 0 2 ≤ v5 then some (v4, σ) else gd ((0 : Int) ≤ wr ((wr (4 + (wr (3 * v5)))) + 1) ∧ wr ((wr (4 + (wr (3 * v5)))) + 1) < 48) (if σ 27 0 0 < qdiv (wr (v1 * (σ 32 0 (wr ((wr (4 + (wr (3 * v5)))) + 1)).toNat))) 60 then lX7_holds_51 n 1 σ v1 v2 v3 v4 v5 0 else lX7_holds_51 n 1 σ v1 v2 v3 v4 v5 1) := rfl
theorem lX7_holds_51_e1 (n : Nat) (σ : Hp) (v1 : Int) (v2 : Int) (v3 : Int) (v4 : Int) (v5 : Int) (w0 : Int) : lX7_holds_51 (n + 1) 1 σ v1 v2 v3 v4 v5 w0 =
    if w0 = 0 then lX7_holds_51 n 0 σ v1 v2 v3 (qor v4 0) (wr (v5 + 1)) 0 else cl (fX7_depthIn σ v5 v2 v3) (fun r18 σ19 => if r18 ≤ 0 then lX7_holds_51 n 0 σ19 v1 v2 v3 (qor v4 0) (wr (v5 + 1)) 0 else lX7_holds_51 n 0 σ19 v1 v2 v3 (qor v4 (qshl 1 v5)) (wr (v5 + 1)) 0) := rfl
def fX7_holds (σ : Hp) (v1 : Int) (v2 : Int) (v3 : Int) : Option (Int × Hp) :=
  if fX7_isWood σ = 0 then some ((-1000002), σ) else if fX7_in v1 1 30 = 0 then some ((-1000001), σ) else if fX7_in v2 1 20 = 0 then some ((-1000001), σ) else if fX7_isFar v3 = 0 then some ((-1000001), σ) else cl (fX7_tries σ v3) (fun _ σ10 => lX7_holds_51 FU 0 σ10 v1 v2 v3 0 0 0)
def lX7_deep_20 : Nat → Hp → Int → Int → Int → Option (Int × Hp)
  | 0, _, _, _, _ => none
  | n + 1, σ, v1, v2, v3 =>
    if 21 ≤ v3 then some ((-1000000), σ) else cl (fX7_depthIn σ v1 v3 v2) (fun r6 σ7 => if r6 ≤ 0 then lX7_deep_20 n σ7 v1 v2 (wr (v3 + 1)) else some (v3, σ7))
theorem lX7_deep_20_e0 (n : Nat) (σ : Hp) (v1 : Int) (v2 : Int) (v3 : Int) : lX7_deep_20 (n + 1) σ v1 v2 v3 =
    if 21 ≤ v3 then some ((-1000000), σ) else cl (fX7_depthIn σ v1 v3 v2) (fun r6 σ7 => if r6 ≤ 0 then lX7_deep_20 n σ7 v1 v2 (wr (v3 + 1)) else some (v3, σ7)) := rfl
def fX7_deep (σ : Hp) (v1 : Int) (v2 : Int) : Option (Int × Hp) :=
  if fX7_isTree σ v1 = 0 then some ((-1000001), σ) else if fX7_isFar v2 = 0 then some ((-1000001), σ) else lX7_deep_20 FU σ v1 v2 1
def lX7_meet_39 : Nat → Nat → Hp → Int → Int → Int → Int → Int → Int → Int → Int → Option (Int × Hp)
  | 0, _, _, _, _, _, _, _, _, _, _ => none
  | n + 1, 0, σ, v2, v3, v4, v5, v6, v7, w0, v8 =>
    if σ 27 0 3 ≤ v6 then if v2 = 0 then some (v4, σ) else some (v5, σ) else lX7_meet_39 n 1 σ v2 v3 v4 v5 v6 (wr (v6 + 1)) 0 0
  | n + 1, 1, σ, v2, v3, v4, v5, v6, v7, w0, v8 =>
    if σ 27 0 3 ≤ v7 then lX7_meet_39 n 0 σ v2 v3 v4 v5 (wr (v6 + 1)) 0 0 0 else if fX7_has v3 v6 = 0 then lX7_meet_39 n 2 σ v2 v3 v4 v5 v6 v7 0 0 else if fX7_has v3 v7 = 0 then lX7_meet_39 n 2 σ v2 v3 v4 v5 v6 v7 0 0 else cl (fX7_between σ 27 0 v6 v7) (fun r17 σ18 => if r17 ≤ 28 then lX7_meet_39 n 2 σ18 v2 v3 v4 v5 v6 v7 0 0 else lX7_meet_39 n 2 σ18 v2 v3 v4 v5 v6 v7 1 0)
  | n + 1, 2, σ, v2, v3, v4, v5, v6, v7, w0, v8 =>
    if w0 = 0 then lX7_meet_39 n 3 σ v2 v3 v4 0 v6 v7 v5 w0 else if v4 = 0 then lX7_meet_39 n 3 σ v2 v3 v4 0 v6 v7 (wr ((wr (10 * v6)) + v7)) w0 else lX7_meet_39 n 3 σ v2 v3 v4 0 v6 v7 v5 w0
  | n + 1, _, σ, v2, v3, v4, v5, v6, v7, w0, v8 =>
    if v8 = 0 then lX7_meet_39 n 1 σ v2 v3 (wr (v4 + 0)) w0 v6 (wr (v7 + 1)) 0 0 else lX7_meet_39 n 1 σ v2 v3 (wr (v4 + 1)) w0 v6 (wr (v7 + 1)) 0 0
theorem lX7_meet_39_e0 (n : Nat) (σ : Hp) (v2 : Int) (v3 : Int) (v4 : Int) (v5 : Int) (v6 : Int) (v7 : Int) (w0 : Int) (v8 : Int) : lX7_meet_39 (n + 1) 0 σ v2 v3 v4 v5 v6 v7 w0 v8 =
    if σ 27 0 3 ≤ v6 then if v2 = 0 then some (v4, σ) else some (v5, σ) else lX7_meet_39 n 1 σ v2 v3 v4 v5 v6 (wr (v6 + 1)) 0 0 := rfl
theorem lX7_meet_39_e1 (n : Nat) (σ : Hp) (v2 : Int) (v3 : Int) (v4 : Int) (v5 : Int) (v6 : Int) (v7 : Int) (w0 : Int) (v8 : Int) : lX7_meet_39 (n + 1) 1 σ v2 v3 v4 v5 v6 v7 w0 v8 =
    if σ 27 0 3 ≤ v7 then lX7_meet_39 n 0 σ v2 v3 v4 v5 (wr (v6 + 1)) 0 0 0 else if fX7_has v3 v6 = 0 then lX7_meet_39 n 2 σ v2 v3 v4 v5 v6 v7 0 0 else if fX7_has v3 v7 = 0 then lX7_meet_39 n 2 σ v2 v3 v4 v5 v6 v7 0 0 else cl (fX7_between σ 27 0 v6 v7) (fun r17 σ18 => if r17 ≤ 28 then lX7_meet_39 n 2 σ18 v2 v3 v4 v5 v6 v7 0 0 else lX7_meet_39 n 2 σ18 v2 v3 v4 v5 v6 v7 1 0) := rfl
theorem lX7_meet_39_e2 (n : Nat) (σ : Hp) (v2 : Int) (v3 : Int) (v4 : Int) (v5 : Int) (v6 : Int) (v7 : Int) (w0 : Int) (v8 : Int) : lX7_meet_39 (n + 1) 2 σ v2 v3 v4 v5 v6 v7 w0 v8 =
    if w0 = 0 then lX7_meet_39 n 3 σ v2 v3 v4 0 v6 v7 v5 w0 else if v4 = 0 then lX7_meet_39 n 3 σ v2 v3 v4 0 v6 v7 (wr ((wr (10 * v6)) + v7)) w0 else lX7_meet_39 n 3 σ v2 v3 v4 0 v6 v7 v5 w0 := rfl
theorem lX7_meet_39_e3 (n : Nat) (σ : Hp) (v2 : Int) (v3 : Int) (v4 : Int) (v5 : Int) (v6 : Int) (v7 : Int) (w0 : Int) (v8 : Int) : lX7_meet_39 (n + 1) 3 σ v2 v3 v4 v5 v6 v7 w0 v8 =
    if v8 = 0 then lX7_meet_39 n 1 σ v2 v3 (wr (v4 + 0)) w0 v6 (wr (v7 + 1)) 0 0 else lX7_meet_39 n 1 σ v2 v3 (wr (v4 + 1)) w0 v6 (wr (v7 + 1)) 0 0 := rfl
def fX7_meet (σ : Hp) (v1 : Int) (v2 : Int) : Option (Int × Hp) :=
  if fX7_isTree σ v1 = 0 then some ((-1000001), σ) else if fX7_in v2 0 1 = 0 then some ((-1000001), σ) else cl (fX7_legible σ 27 0 v1) (fun r5 σ6 => lX7_meet_39 FU 0 σ6 v2 r5 0 (-1000000) 0 0 0 0)
def lX7_rings_38 : Nat → Hp → Int → Int → Int → Int → Int → Option (Int × Hp)
  | 0, _, _, _, _, _, _ => none
  | n + 1, σ, v2, v3, v4, v5, v6 =>
    if σ 27 0 3 ≤ v6 then if v2 = 0 then some (v4, σ) else some (v5, σ) else if fX7_has v3 v6 = 0 then lX7_rings_38 n σ v2 v3 v4 v5 (wr (v6 + 1)) else cl (fX7_ringOf σ 27 0 v6 v3) (fun r14 σ15 => cl (fX7_ones σ15 r14) (fun r19 σ20 => if r19 ≤ v5 then lX7_rings_38 n σ20 v2 (qand v3 (qxor r14 (-1))) (wr (v4 + 1)) v5 (wr (v6 + 1)) else cl (fX7_ones σ20 r14) (fun r25 σ26 => lX7_rings_38 n σ26 v2 (qand v3 (qxor r14 (-1))) (wr (v4 + 1)) r25 (wr (v6 + 1)))))
theorem lX7_rings_38_e0 (n : Nat) (σ : Hp) (v2 : Int) (v3 : Int) (v4 : Int) (v5 : Int) (v6 : Int) : lX7_rings_38 (n + 1) σ v2 v3 v4 v5 v6 =
    if σ 27 0 3 ≤ v6 then if v2 = 0 then some (v4, σ) else some (v5, σ) else if fX7_has v3 v6 = 0 then lX7_rings_38 n σ v2 v3 v4 v5 (wr (v6 + 1)) else cl (fX7_ringOf σ 27 0 v6 v3) (fun r14 σ15 => cl (fX7_ones σ15 r14) (fun r19 σ20 => if r19 ≤ v5 then lX7_rings_38 n σ20 v2 (qand v3 (qxor r14 (-1))) (wr (v4 + 1)) v5 (wr (v6 + 1)) else cl (fX7_ones σ20 r14) (fun r25 σ26 => lX7_rings_38 n σ26 v2 (qand v3 (qxor r14 (-1))) (wr (v4 + 1)) r25 (wr (v6 + 1))))) := rfl
def fX7_rings (σ : Hp) (v1 : Int) (v2 : Int) : Option (Int × Hp) :=
  if fX7_isTree σ v1 = 0 then some ((-1000001), σ) else if fX7_in v2 0 1 = 0 then some ((-1000001), σ) else cl (fX7_legible σ 27 0 v1) (fun r5 σ6 => lX7_rings_38 FU σ6 v2 r5 0 0 0)
def lX7_gaps_66 : Nat → Nat → Hp → Int → Int → Int → Int → Int → Int → Int → Int → Option (Int × Hp)
  | 0, _, _, _, _, _, _, _, _, _, _ => none
  | n + 1, 0, σ, v1, v2, v3, v4, v5, v6, v7, v8 =>
    if 21 ≤ v6 then cl (fX7_well σ v5) (fun r30 σ31 => some (r30, σ31)) else lX7_gaps_66 n 1 σ v1 v2 v3 v4 v5 v6 1 0
  | n + 1, _, σ, v1, v2, v3, v4, v5, v6, v7, v8 =>
    if v4 ≤ v8 then if v7 = 0 then lX7_gaps_66 n 0 σ v1 v2 v3 v4 (qor v5 0) (wr (v6 + 1)) 0 0 else lX7_gaps_66 n 0 σ v1 v2 v3 v4 (qor v5 (qshl 1 v6)) (wr (v6 + 1)) 0 0 else if v7 = 0 then lX7_gaps_66 n 1 σ v1 v2 v3 v4 v5 v6 0 (wr (v8 + 1)) else gd ((0 : Int) ≤ wr (16 + (wr (4 * v1))) ∧ wr (16 + (wr (4 * v1))) < 48) (cl (fX7_depthIn σ (σ 27 0 (wr (16 + (wr (4 * v1)))).toNat) v6 (wr (v8 + 1))) (fun r39 σ40 => gd ((0 : Int) ≤ wr ((wr ((wr (40 * v2)) + v3)) + v8) ∧ wr ((wr ((wr (40 * v2)) + v3)) + v8) < 320) (if r39 = σ40 24 0 (wr ((wr ((wr (40 * v2)) + v3)) + v8)).toNat then lX7_gaps_66 n 1 σ40 v1 v2 v3 v4 v5 v6 1 (wr (v8 + 1)) else lX7_gaps_66 n 1 σ40 v1 v2 v3 v4 v5 v6 0 (wr (v8 + 1)))))
theorem lX7_gaps_66_e0 (n : Nat) (σ : Hp) (v1 : Int) (v2 : Int) (v3 : Int) (v4 : Int) (v5 : Int) (v6 : Int) (v7 : Int) (v8 : Int) : lX7_gaps_66 (n + 1) 0 σ v1 v2 v3 v4 v5 v6 v7 v8 =
    if 21 ≤ v6 then cl (fX7_well σ v5) (fun r30 σ31 => some (r30, σ31)) else lX7_gaps_66 n 1 σ v1 v2 v3 v4 v5 v6 1 0 := rfl
theorem lX7_gaps_66_e1 (n : Nat) (σ : Hp) (v1 : Int) (v2 : Int) (v3 : Int) (v4 : Int) (v5 : Int) (v6 : Int) (v7 : Int) (v8 : Int) : lX7_gaps_66 (n + 1) 1 σ v1 v2 v3 v4 v5 v6 v7 v8 =
    if v4 ≤ v8 then if v7 = 0 then lX7_gaps_66 n 0 σ v1 v2 v3 v4 (qor v5 0) (wr (v6 + 1)) 0 0 else lX7_gaps_66 n 0 σ v1 v2 v3 v4 (qor v5 (qshl 1 v6)) (wr (v6 + 1)) 0 0 else if v7 = 0 then lX7_gaps_66 n 1 σ v1 v2 v3 v4 v5 v6 0 (wr (v8 + 1)) else gd ((0 : Int) ≤ wr (16 + (wr (4 * v1))) ∧ wr (16 + (wr (4 * v1))) < 48) (cl (fX7_depthIn σ (σ 27 0 (wr (16 + (wr (4 * v1)))).toNat) v6 (wr (v8 + 1))) (fun r39 σ40 => gd ((0 : Int) ≤ wr ((wr ((wr (40 * v2)) + v3)) + v8) ∧ wr ((wr ((wr (40 * v2)) + v3)) + v8) < 320) (if r39 = σ40 24 0 (wr ((wr ((wr (40 * v2)) + v3)) + v8)).toNat then lX7_gaps_66 n 1 σ40 v1 v2 v3 v4 v5 v6 1 (wr (v8 + 1)) else lX7_gaps_66 n 1 σ40 v1 v2 v3 v4 v5 v6 0 (wr (v8 + 1))))) := rfl
def fX7_gaps (σ : Hp) (v1 : Int) (v2 : Int) (v3 : Int) (v4 : Int) : Option (Int × Hp) :=
  if fX7_isCut σ v1 = 0 then some ((-1000001), σ) else if fX7_isRow v2 = 0 then some ((-1000001), σ) else if fX7_in v4 1 16 = 0 then some ((-1000001), σ) else cl (fX7_isMissing σ v2) (fun r7 σ8 => if r7 = 0 then cl (fX7_isPart σ8 v2 v3 v4) (fun r13 σ14 => if r13 = 0 then cl (fX7_found σ14 2) (fun r19 σ20 => some (r19, σ20)) else lX7_gaps_66 FU 0 σ14 v1 v2 v3 v4 0 1 0 0) else cl (fX7_found σ8 1) (fun r24 σ25 => some (r24, σ25)))
def lX7_growsSo_20 : Nat → Hp → Int → Int → Int → Int → Int → Int → Int → Option (Int × Hp)
  | 0, _, _, _, _, _, _, _, _ => none
  | n + 1, σ, v2, v3, v4, v5, v6, v7, v8 =>
    if v5 ≤ v8 then gd (v7 = 0 ∨ v7 = 1) (some (v7, σ)) else if v7 = 0 then lX7_growsSo_20 n σ v2 v3 v4 v5 (wr (v6 + (fX7_growth v2 v3 v6 (wr ((σ 27 0 1) + v8))))) 0 (wr (v8 + 1)) else gd ((0 : Int) ≤ wr (v4 + v8) ∧ wr (v4 + v8) < 320) (if σ 24 0 (wr (v4 + v8)).toNat = wr (v6 + (fX7_growth v2 v3 v6 (wr ((σ 27 0 1) + v8)))) then lX7_growsSo_20 n σ v2 v3 v4 v5 (wr (v6 + (fX7_growth v2 v3 v6 (wr ((σ 27 0 1) + v8))))) 1 (wr (v8 + 1)) else lX7_growsSo_20 n σ v2 v3 v4 v5 (wr (v6 + (fX7_growth v2 v3 v6 (wr ((σ 27 0 1) + v8))))) 0 (wr (v8 + 1)))
theorem lX7_growsSo_20_e0 (n : Nat) (σ : Hp) (v2 : Int) (v3 : Int) (v4 : Int) (v5 : Int) (v6 : Int) (v7 : Int) (v8 : Int) : lX7_growsSo_20 (n + 1) σ v2 v3 v4 v5 v6 v7 v8 =
    if v5 ≤ v8 then gd (v7 = 0 ∨ v7 = 1) (some (v7, σ)) else if v7 = 0 then lX7_growsSo_20 n σ v2 v3 v4 v5 (wr (v6 + (fX7_growth v2 v3 v6 (wr ((σ 27 0 1) + v8))))) 0 (wr (v8 + 1)) else gd ((0 : Int) ≤ wr (v4 + v8) ∧ wr (v4 + v8) < 320) (if σ 24 0 (wr (v4 + v8)).toNat = wr (v6 + (fX7_growth v2 v3 v6 (wr ((σ 27 0 1) + v8)))) then lX7_growsSo_20 n σ v2 v3 v4 v5 (wr (v6 + (fX7_growth v2 v3 v6 (wr ((σ 27 0 1) + v8))))) 1 (wr (v8 + 1)) else lX7_growsSo_20 n σ v2 v3 v4 v5 (wr (v6 + (fX7_growth v2 v3 v6 (wr ((σ 27 0 1) + v8))))) 0 (wr (v8 + 1))) := rfl
def fX7_growsSo (σ : Hp) (v1 : Int) (v2 : Int) (v3 : Int) (v4 : Int) (v5 : Int) : Option (Int × Hp) :=
  gd ((0 : Int) ≤ wr ((wr (4 + (wr (3 * v1)))) + 1) ∧ wr ((wr (4 + (wr (3 * v1)))) + 1) < 48) (lX7_growsSo_20 FU σ v2 v3 v4 v5 (σ 27 0 (wr ((wr (4 + (wr (3 * v1)))) + 1)).toNat) 1 0)
def lX7_which_76 : Nat → Nat → Hp → Int → Int → Int → Int → Int → Int → Int → Int → Int → Int → Option (Int × Hp)
  | 0, _, _, _, _, _, _, _, _, _, _, _, _ => none
  | n + 1, 0, σ, v1, v2, v3, v4, v5, v6, v7, w0, v8, v9 =>
    if 10 ≤ v7 then cl (fX7_well σ v6) (fun r32 σ33 => some (r32, σ33)) else if v5 = 0 then lX7_which_76 n 1 σ v1 v2 v3 v4 v5 v6 v7 v7 0 0 else gd ((0 : Int) ≤ wr (4 + (wr (3 * v1))) ∧ wr (4 + (wr (3 * v1))) < 48) (lX7_which_76 n 1 σ v1 v2 v3 v4 v5 v6 v7 (σ 27 0 (wr (4 + (wr (3 * v1)))).toNat) 0 0)
  | n + 1, 1, σ, v1, v2, v3, v4, v5, v6, v7, w0, v8, v9 =>
    if v5 = 0 then gd ((0 : Int) ≤ wr ((wr (4 + (wr (3 * v1)))) + 2) ∧ wr ((wr (4 + (wr (3 * v1)))) + 2) < 48) (lX7_which_76 n 2 σ v1 v2 v3 v4 v5 v6 v7 (σ 27 0 (wr ((wr (4 + (wr (3 * v1)))) + 2)).toNat) w0 0) else lX7_which_76 n 2 σ v1 v2 v3 v4 v5 v6 v7 v7 w0 0
  | n + 1, 2, σ, v1, v2, v3, v4, v5, v6, v7, w0, v8, v9 =>
    if v5 = 1 then lX7_which_76 n 3 σ v1 v2 v3 v4 v5 v6 v7 1 v8 w0 else if fX7_in v7 1 5 = 0 then lX7_which_76 n 3 σ v1 v2 v3 v4 v5 v6 v7 0 v8 w0 else lX7_which_76 n 3 σ v1 v2 v3 v4 v5 v6 v7 1 v8 w0
  | n + 1, _, σ, v1, v2, v3, v4, v5, v6, v7, w0, v8, v9 =>
    if w0 = 0 then lX7_which_76 n 0 σ v1 v2 v3 v4 v5 (qor v6 0) (wr (v7 + 1)) 0 0 0 else cl (fX7_growsSo σ v1 v8 v9 (wr ((wr (40 * v2)) + v3)) v4) (fun r45 σ46 => if r45 = 0 then lX7_which_76 n 0 σ46 v1 v2 v3 v4 v5 (qor v6 0) (wr (v7 + 1)) 0 0 0 else lX7_which_76 n 0 σ46 v1 v2 v3 v4 v5 (qor v6 (qshl 1 v7)) (wr (v7 + 1)) 0 0 0)
theorem lX7_which_76_e0 (n : Nat) (σ : Hp) (v1 : Int) (v2 : Int) (v3 : Int) (v4 : Int) (v5 : Int) (v6 : Int) (v7 : Int) (w0 : Int) (v8 : Int) (v9 : Int) : lX7_which_76 (n + 1) 0 σ v1 v2 v3 v4 v5 v6 v7 w0 v8 v9 =
    if 10 ≤ v7 then cl (fX7_well σ v6) (fun r32 σ33 => some (r32, σ33)) else if v5 = 0 then lX7_which_76 n 1 σ v1 v2 v3 v4 v5 v6 v7 v7 0 0 else gd ((0 : Int) ≤ wr (4 + (wr (3 * v1))) ∧ wr (4 + (wr (3 * v1))) < 48) (lX7_which_76 n 1 σ v1 v2 v3 v4 v5 v6 v7 (σ 27 0 (wr (4 + (wr (3 * v1)))).toNat) 0 0) := rfl
theorem lX7_which_76_e1 (n : Nat) (σ : Hp) (v1 : Int) (v2 : Int) (v3 : Int) (v4 : Int) (v5 : Int) (v6 : Int) (v7 : Int) (w0 : Int) (v8 : Int) (v9 : Int) : lX7_which_76 (n + 1) 1 σ v1 v2 v3 v4 v5 v6 v7 w0 v8 v9 =
    if v5 = 0 then gd ((0 : Int) ≤ wr ((wr (4 + (wr (3 * v1)))) + 2) ∧ wr ((wr (4 + (wr (3 * v1)))) + 2) < 48) (lX7_which_76 n 2 σ v1 v2 v3 v4 v5 v6 v7 (σ 27 0 (wr ((wr (4 + (wr (3 * v1)))) + 2)).toNat) w0 0) else lX7_which_76 n 2 σ v1 v2 v3 v4 v5 v6 v7 v7 w0 0 := rfl
theorem lX7_which_76_e2 (n : Nat) (σ : Hp) (v1 : Int) (v2 : Int) (v3 : Int) (v4 : Int) (v5 : Int) (v6 : Int) (v7 : Int) (w0 : Int) (v8 : Int) (v9 : Int) : lX7_which_76 (n + 1) 2 σ v1 v2 v3 v4 v5 v6 v7 w0 v8 v9 =
    if v5 = 1 then lX7_which_76 n 3 σ v1 v2 v3 v4 v5 v6 v7 1 v8 w0 else if fX7_in v7 1 5 = 0 then lX7_which_76 n 3 σ v1 v2 v3 v4 v5 v6 v7 0 v8 w0 else lX7_which_76 n 3 σ v1 v2 v3 v4 v5 v6 v7 1 v8 w0 := rfl
theorem lX7_which_76_e3 (n : Nat) (σ : Hp) (v1 : Int) (v2 : Int) (v3 : Int) (v4 : Int) (v5 : Int) (v6 : Int) (v7 : Int) (w0 : Int) (v8 : Int) (v9 : Int) : lX7_which_76 (n + 1) 3 σ v1 v2 v3 v4 v5 v6 v7 w0 v8 v9 =
    if w0 = 0 then lX7_which_76 n 0 σ v1 v2 v3 v4 v5 (qor v6 0) (wr (v7 + 1)) 0 0 0 else cl (fX7_growsSo σ v1 v8 v9 (wr ((wr (40 * v2)) + v3)) v4) (fun r45 σ46 => if r45 = 0 then lX7_which_76 n 0 σ46 v1 v2 v3 v4 v5 (qor v6 0) (wr (v7 + 1)) 0 0 0 else lX7_which_76 n 0 σ46 v1 v2 v3 v4 v5 (qor v6 (qshl 1 v7)) (wr (v7 + 1)) 0 0 0) := rfl
def fX7_which (σ : Hp) (v1 : Int) (v2 : Int) (v3 : Int) (v4 : Int) (v5 : Int) : Option (Int × Hp) :=
  if fX7_isTree σ v1 = 0 then some ((-1000001), σ) else if fX7_isRow v2 = 0 then some ((-1000001), σ) else if fX7_in v4 1 16 = 0 then some ((-1000001), σ) else if fX7_in v5 0 1 = 0 then some ((-1000001), σ) else cl (fX7_isMissing σ v2) (fun r9 σ10 => if r9 = 0 then cl (fX7_isPart σ10 v2 v3 v4) (fun r15 σ16 => if r15 = 0 then cl (fX7_found σ16 2) (fun r21 σ22 => some (r21, σ22)) else lX7_which_76 FU 0 σ16 v1 v2 v3 v4 v5 0 0 0 0 0) else cl (fX7_found σ10 1) (fun r26 σ27 => some (r26, σ27)))
def lX7_storm_218 : Nat → Hp → Int → Int → Int → Int → Int → Option (Int × Hp)
  | 0, _, _, _, _, _, _ => none
  | n + 1, σ, v4, v6, v7, v8, v9 =>
    if v9 = 0 then if v4 = 0 then gd (v8 ≠ 0) (some (qdiv v6 v8, σ)) else gd (v8 ≠ 0) (some (qdiv v7 v8, σ)) else gd (v9 ≠ 0) (lX7_storm_218 n σ v4 v6 v7 v9 (qrem v8 v9))
theorem lX7_storm_218_e0 (n : Nat) (σ : Hp) (v4 : Int) (v6 : Int) (v7 : Int) (v8 : Int) (v9 : Int) : lX7_storm_218 (n + 1) σ v4 v6 v7 v8 v9 =
    if v9 = 0 then if v4 = 0 then gd (v8 ≠ 0) (some (qdiv v6 v8, σ)) else gd (v8 ≠ 0) (some (qdiv v7 v8, σ)) else gd (v9 ≠ 0) (lX7_storm_218 n σ v4 v6 v7 v9 (qrem v8 v9)) := rfl
def lX7_storm_102 : Nat → Nat → Hp → Int → Int → Int → Int → Int → Int → Int → Int → Int → Int → Option (Int × Hp)
  | 0, _, _, _, _, _, _, _, _, _, _, _, _ => none
  | n + 1, 0, σ, v1, v2, v3, v4, v5, v6, v7, v8, v9, v10 =>
    if v5 < v8 then lX7_storm_218 FU σ v4 v6 v7 v6 v7 else if qand v8 (qxor v5 (-1)) = 0 then cl (fX7_areTogether σ 27 0 v1 v2 v8) (fun r22 σ23 => if r22 = 0 then lX7_storm_102 n 1 σ23 v1 v2 v3 v4 v5 v6 v7 v8 0 0 else lX7_storm_102 n 1 σ23 v1 v2 v3 v4 v5 v6 v7 v8 1 0) else lX7_storm_102 n 1 σ v1 v2 v3 v4 v5 v6 v7 v8 0 0
  | n + 1, _, σ, v1, v2, v3, v4, v5, v6, v7, v8, v9, v10 =>
    if σ 27 0 3 ≤ v10 then lX7_storm_102 n 0 σ v1 v2 v3 v4 v5 (wr (v6 + v9)) v7 (wr (v8 + 1)) 0 0 else if fX7_has v5 v10 = 0 then lX7_storm_102 n 1 σ v1 v2 v3 v4 v5 v6 v7 v8 (wr (v9 * 1)) (wr (v10 + 1)) else if fX7_has v8 v10 = 0 then lX7_storm_102 n 1 σ v1 v2 v3 v4 v5 v6 v7 v8 (wr (v9 * (wr (10 - v3)))) (wr (v10 + 1)) else lX7_storm_102 n 1 σ v1 v2 v3 v4 v5 v6 v7 v8 (wr (v9 * v3)) (wr (v10 + 1))
theorem lX7_storm_102_e0 (n : Nat) (σ : Hp) (v1 : Int) (v2 : Int) (v3 : Int) (v4 : Int) (v5 : Int) (v6 : Int) (v7 : Int) (v8 : Int) (v9 : Int) (v10 : Int) : lX7_storm_102 (n + 1) 0 σ v1 v2 v3 v4 v5 v6 v7 v8 v9 v10 =
    if v5 < v8 then lX7_storm_218 FU σ v4 v6 v7 v6 v7 else if qand v8 (qxor v5 (-1)) = 0 then cl (fX7_areTogether σ 27 0 v1 v2 v8) (fun r22 σ23 => if r22 = 0 then lX7_storm_102 n 1 σ23 v1 v2 v3 v4 v5 v6 v7 v8 0 0 else lX7_storm_102 n 1 σ23 v1 v2 v3 v4 v5 v6 v7 v8 1 0) else lX7_storm_102 n 1 σ v1 v2 v3 v4 v5 v6 v7 v8 0 0 := rfl
theorem lX7_storm_102_e1 (n : Nat) (σ : Hp) (v1 : Int) (v2 : Int) (v3 : Int) (v4 : Int) (v5 : Int) (v6 : Int) (v7 : Int) (v8 : Int) (v9 : Int) (v10 : Int) : lX7_storm_102 (n + 1) 1 σ v1 v2 v3 v4 v5 v6 v7 v8 v9 v10 =
    if σ 27 0 3 ≤ v10 then lX7_storm_102 n 0 σ v1 v2 v3 v4 v5 (wr (v6 + v9)) v7 (wr (v8 + 1)) 0 0 else if fX7_has v5 v10 = 0 then lX7_storm_102 n 1 σ v1 v2 v3 v4 v5 v6 v7 v8 (wr (v9 * 1)) (wr (v10 + 1)) else if fX7_has v8 v10 = 0 then lX7_storm_102 n 1 σ v1 v2 v3 v4 v5 v6 v7 v8 (wr (v9 * (wr (10 - v3)))) (wr (v10 + 1)) else lX7_storm_102 n 1 σ v1 v2 v3 v4 v5 v6 v7 v8 (wr (v9 * v3)) (wr (v10 + 1)) := rfl
def lX7_storm_61 : Nat → Hp → Int → Int → Int → Int → Int → Int → Int → Int → Option (Int × Hp)
  | 0, _, _, _, _, _, _, _, _, _ => none
  | n + 1, σ, v1, v2, v3, v4, v5, v6, v7, v8 =>
    if σ 27 0 3 ≤ v8 then lX7_storm_102 FU 0 σ v1 v2 v3 v4 v5 v6 v7 0 0 0 else if fX7_has v5 v8 = 0 then lX7_storm_61 n σ v1 v2 v3 v4 v5 v6 (wr (v7 * 1)) (wr (v8 + 1)) else lX7_storm_61 n σ v1 v2 v3 v4 v5 v6 (wr (v7 * 10)) (wr (v8 + 1))
theorem lX7_storm_61_e0 (n : Nat) (σ : Hp) (v1 : Int) (v2 : Int) (v3 : Int) (v4 : Int) (v5 : Int) (v6 : Int) (v7 : Int) (v8 : Int) : lX7_storm_61 (n + 1) σ v1 v2 v3 v4 v5 v6 v7 v8 =
    if σ 27 0 3 ≤ v8 then lX7_storm_102 FU 0 σ v1 v2 v3 v4 v5 v6 v7 0 0 0 else if fX7_has v5 v8 = 0 then lX7_storm_61 n σ v1 v2 v3 v4 v5 v6 (wr (v7 * 1)) (wr (v8 + 1)) else lX7_storm_61 n σ v1 v2 v3 v4 v5 v6 (wr (v7 * 10)) (wr (v8 + 1)) := rfl
def fX7_storm (σ : Hp) (v1 : Int) (v2 : Int) (v3 : Int) (v4 : Int) : Option (Int × Hp) :=
  cl (fX7_areOfOne σ v1 v2) (fun r1 σ2 => if r1 = 0 then some ((-1000001), σ2) else if fX7_in v3 0 10 = 0 then some ((-1000001), σ2) else if fX7_in v4 0 1 = 0 then some ((-1000001), σ2) else gd ((0 : Int) ≤ wr (16 + (wr (4 * v1))) ∧ wr (16 + (wr (4 * v1))) < 48) (cl (fX7_legible σ2 27 0 (σ2 27 0 (wr (16 + (wr (4 * v1)))).toNat)) (fun r12 σ13 => lX7_storm_61 FU σ13 v1 v2 v3 v4 r12 0 1 0)))
def fX7_image (σ : Hp) (v1 : Int) : Option (Int × Hp) :=
  if fX7_in v1 0 1 = 0 then some ((-1000001), σ) else if fX7_isWood σ = 0 then some ((-1000002), σ) else cl (fX7_copies σ 27 0 0 30 0 (wr (48 * v1))) (fun _ σ6 => gd ((0 : Int) ≤ v1 ∧ v1 < 2) (sq (hup σ6 31 0 v1.toNat 1) (fun σ11 => some (1, σ11))))
def fX7_restore (σ : Hp) (v1 : Int) : Option (Int × Hp) :=
  if fX7_in v1 0 1 = 0 then some ((-1000001), σ) else gd (0 ≤ v1 ∧ v1 < 2) (if σ 31 0 v1.toNat = 0 then some ((-1000002), σ) else cl (fX7_copies σ 30 0 (wr (48 * v1)) 27 0 0) (fun _ σ6 => sq (hup σ6 7 0 16 0) (fun σ10 => some (1, σ10))))
def fX7_kindIn (σ : Hp) (v1 : Int) : Option (Int × Hp) :=
  gd ((0 : Int) ≤ wr (4 + (wr (3 * v1))) ∧ wr (4 + (wr (3 * v1))) < 48) (some (σ 27 0 (wr (4 + (wr (3 * v1)))).toNat, σ))
def fX7_kind (σ : Hp) (v1 : Int) : Option (Int × Hp) :=
  if fX7_isTree σ v1 = 0 then some ((-1000001), σ) else cl (fX7_kindIn σ v1) (fun r3 σ4 => some (r3, σ4))
def jX7_as_60 (σ : Hp) (v1 : Int) (w0 : Int) : Option (Int × Hp) :=
  if w0 = 0 then cl (fX7_found σ 3) (fun r17 σ18 => some (r17, σ18)) else cl (fX7_well σ v1) (fun r22 σ23 => some (r22, σ23))
def jX7_as_45 (σ : Hp) (v1 : Int) (v2 : Int) (v3 : Int) : Option (Int × Hp) :=
  if v2 = 4 then if v3 = 5 then jX7_as_60 σ v1 1 else jX7_as_60 σ v1 0 else jX7_as_60 σ v1 0
def fX7_as (σ : Hp) (v1 : Int) (v2 : Int) : Option (Int × Hp) :=
  if fX7_isTree σ v1 = 0 then some ((-1000001), σ) else if fX7_in v2 0 5 = 0 then some ((-1000001), σ) else cl (fX7_kindIn σ v1) (fun r5 σ6 => if v2 = 0 then jX7_as_60 σ6 v1 1 else if v2 = r5 then jX7_as_60 σ6 v1 1 else if v2 = 1 then if r5 < 4 then jX7_as_60 σ6 v1 1 else jX7_as_45 σ6 v1 v2 r5 else jX7_as_45 σ6 v1 v2 r5)
def fX7_begins (σ : Hp) (v1 : Int) : Option (Int × Hp) :=
  if 16 ≤ σ 7 0 21 then some (0, σ) else gd ((0 : Int) ≤ σ 7 0 21 ∧ σ 7 0 21 < 16) (sq (hup σ 33 0 (σ 7 0 21).toNat v1) (fun σ3 => sq (hup σ3 7 0 21 (wr ((σ3 7 0 21) + 1))) (fun σ6 => some (0, σ6))))
def jX7_beechMark_27 (σ : Hp) (v1 : Int) (v2 : Int) : Option (Int × Hp) :=
  cl (fX7_begins σ 21) (fun _ σ19 => cl (fX7_begins σ19 20) (fun _ σ24 => gd ((0 : Int) ≤ wr ((wr (4 + (wr (3 * v1)))) + 1) ∧ wr ((wr (4 + (wr (3 * v1)))) + 1) < 48) (if v2 = 2 then some (wr (2 * (wr (v1 + (σ24 27 0 (wr ((wr (4 + (wr (3 * v1)))) + 1)).toNat)))), σ24) else if v2 = 3 then some (wr ((wr (v1 + (σ24 27 0 (wr ((wr (4 + (wr (3 * v1)))) + 1)).toNat))) - 1000), σ24) else some (wr (v1 + (σ24 27 0 (wr ((wr (4 + (wr (3 * v1)))) + 1)).toNat)), σ24))))
def fX7_beechMark (σ : Hp) (v1 : Int) : Option (Int × Hp) :=
  cl (fX7_kindIn σ v1) (fun r1 σ2 => if r1 = 1 then jX7_beechMark_27 σ2 v1 r1 else if r1 = 2 then cl (fX7_begins σ2 24) (fun _ σ14 => jX7_beechMark_27 σ14 v1 r1) else cl (fX7_begins σ2 22) (fun _ σ9 => jX7_beechMark_27 σ9 v1 r1))
def jX7_pineSize_25 (σ : Hp) (v1 : Int) (v2 : Int) : Option (Int × Hp) :=
  cl (fX7_begins σ 13) (fun _ σ14 => cl (fX7_begins σ14 10) (fun _ σ19 => gd ((0 : Int) ≤ wr ((wr (4 + (wr (3 * v1)))) + 2) ∧ wr ((wr (4 + (wr (3 * v1)))) + 2) < 48) (if v2 = 0 then some (wr ((σ19 27 0 (wr ((wr (4 + (wr (3 * v1)))) + 2)).toNat) - 100), σ19) else some (wr (2 * (wr ((σ19 27 0 (wr ((wr (4 + (wr (3 * v1)))) + 2)).toNat) - 100))), σ19))))
def jX7_pineSize_14 (σ : Hp) (v1 : Int) (w0 : Int) : Option (Int × Hp) :=
  if w0 = 0 then jX7_pineSize_25 σ v1 w0 else cl (fX7_begins σ 14) (fun _ σ9 => jX7_pineSize_25 σ9 v1 w0)
def fX7_pineSize (σ : Hp) (v1 : Int) : Option (Int × Hp) :=
  cl (fX7_kindIn σ v1) (fun r1 σ2 => if r1 = 5 then jX7_pineSize_14 σ2 v1 1 else jX7_pineSize_14 σ2 v1 0)
def jX7_beechSize_25 (σ : Hp) (v1 : Int) (v2 : Int) : Option (Int × Hp) :=
  cl (fX7_begins σ 11) (fun _ σ14 => cl (fX7_begins σ14 10) (fun _ σ19 => gd ((0 : Int) ≤ wr ((wr (4 + (wr (3 * v1)))) + 2) ∧ wr ((wr (4 + (wr (3 * v1)))) + 2) < 48) (cl (fX7_beechMark σ19 v1) (fun r24 σ25 => if v2 = 0 then some (wr ((σ19 27 0 (wr ((wr (4 + (wr (3 * v1)))) + 2)).toNat) + r24), σ25) else some (wr (-(wr ((σ19 27 0 (wr ((wr (4 + (wr (3 * v1)))) + 2)).toNat) + r24))), σ25)))))
def jX7_beechSize_14 (σ : Hp) (v1 : Int) (w0 : Int) : Option (Int × Hp) :=
  if w0 = 0 then jX7_beechSize_25 σ v1 w0 else cl (fX7_begins σ 12) (fun _ σ9 => jX7_beechSize_25 σ9 v1 w0)
def fX7_beechSize (σ : Hp) (v1 : Int) : Option (Int × Hp) :=
  cl (fX7_kindIn σ v1) (fun r1 σ2 => if r1 = 2 then jX7_beechSize_14 σ2 v1 1 else jX7_beechSize_14 σ2 v1 0)
def fX7_pineMark (σ : Hp) (v1 : Int) : Option (Int × Hp) :=
  cl (fX7_begins σ 23) (fun _ σ2 => cl (fX7_begins σ2 20) (fun _ σ7 => cl (fX7_pineSize σ7 v1) (fun r11 σ12 => some (wr (v1 - r11), σ12))))
def jX7_ask_39 (σ : Hp) (v1 : Int) (v2 : Int) (w0 : Int) : Option (Int × Hp) :=
  if v2 = 0 then if w0 = 0 then cl (fX7_beechSize σ v1) (fun r27 σ28 => some (r27, σ28)) else cl (fX7_pineSize σ v1) (fun r32 σ33 => some (r32, σ33)) else if w0 = 0 then cl (fX7_beechMark σ v1) (fun r16 σ17 => some (r16, σ17)) else cl (fX7_pineMark σ v1) (fun r21 σ22 => some (r21, σ22))
def fX7_ask (σ : Hp) (v1 : Int) (v2 : Int) : Option (Int × Hp) :=
  if fX7_isTree σ v1 = 0 then some ((-1000001), σ) else if fX7_in v2 0 1 = 0 then some ((-1000001), σ) else sq (hup σ 7 0 21 0) (fun σ5 => cl (fX7_kindIn σ5 v1) (fun r8 σ9 => if r8 < 4 then jX7_ask_39 σ9 v1 v2 0 else jX7_ask_39 σ9 v1 v2 1))
def fX7_trace (σ : Hp) (v1 : Int) : Option (Int × Hp) :=
  if fX7_in v1 0 (wr ((σ 7 0 21) - 1)) = 0 then some ((-1000000), σ) else gd ((0 : Int) ≤ v1 ∧ v1 < 16) (some (σ 33 0 v1.toNat, σ))
def lX7_count_50 : Nat → Hp → Int → Int → Option (Int × Hp)
  | 0, _, _, _ => none
  | n + 1, σ, v2, v3 =>
    if 8 ≤ v3 then some (v2, σ) else cl (fX7_isMissing σ v3) (fun r20 σ21 => if r20 = 0 then lX7_count_50 n σ21 (wr (v2 + 1)) (wr (v3 + 1)) else lX7_count_50 n σ21 (wr (v2 + 0)) (wr (v3 + 1)))
theorem lX7_count_50_e0 (n : Nat) (σ : Hp) (v2 : Int) (v3 : Int) : lX7_count_50 (n + 1) σ v2 v3 =
    if 8 ≤ v3 then some (v2, σ) else cl (fX7_isMissing σ v3) (fun r20 σ21 => if r20 = 0 then lX7_count_50 n σ21 (wr (v2 + 1)) (wr (v3 + 1)) else lX7_count_50 n σ21 (wr (v2 + 0)) (wr (v3 + 1))) := rfl
def fX7_count (σ : Hp) (v1 : Int) : Option (Int × Hp) :=
  if v1 = 0 then lX7_count_50 FU σ 0 0 else if v1 = 1 then some (σ 27 0 2, σ) else if v1 = 2 then some (σ 27 0 3, σ) else if v1 = 3 then cl (fX7_legible σ 27 0 (-1000000)) (fun r5 σ6 => cl (fX7_ones σ6 r5) (fun r10 σ11 => some (r10, σ11))) else if v1 = 4 then some (σ 27 0 1, σ) else if v1 = 5 then some (σ 27 0 0, σ) else if v1 = 6 then some (σ 7 0 16, σ) else if v1 = 7 then some (σ 7 0 6, σ) else some ((-1000001), σ)
def fX7_status (σ : Hp) : Int :=
  σ 7 0 4
