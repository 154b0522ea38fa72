def lL_law : Nat → Hp → (Nat → Int) → Nat → Int → Option (Int × Hp)
  | 0, _, _, _, _ => none
  | n + 1, σ, xs, L, v3 =>
    if wr ((L : Int) - 6) < v3 then some (1, σ) else gd ((0 : Int) ≤ v3 ∧ v3 < (L : Int)) (if qand (xs v3.toNat) 63 = 0 then gd ((0 : Int) ≤ wr (v3 + 1) ∧ wr (v3 + 1) < (L : Int)) (gd ((0 : Int) ≤ wr (v3 + 2) ∧ wr (v3 + 2) < (L : Int)) (gd ((0 : Int) ≤ wr (v3 + 3) ∧ wr (v3 + 3) < (L : Int)) (cl (fX6_row σ (xs (wr (v3 + 1)).toNat) (xs (wr (v3 + 2)).toNat) (xs (wr (v3 + 3)).toNat)) (fun r7 σ8 => gd ((0 : Int) ≤ wr (v3 + 1) ∧ wr (v3 + 1) < (L : Int)) (gd ((0 : Int) ≤ wr (v3 + 2) ∧ wr (v3 + 2) < (L : Int)) (gd ((0 : Int) ≤ wr (v3 + 3) ∧ wr (v3 + 3) < (L : Int)) (cl (fX7_row σ8 (xs (wr (v3 + 1)).toNat) (xs (wr (v3 + 2)).toNat) (xs (wr (v3 + 3)).toNat)) (fun r15 σ16 => if r7 = r15 then lL_law n σ16 xs L (wr (v3 + 6)) else some (0, σ16))))))))) else if qand (xs v3.toNat) 63 = 1 then gd ((0 : Int) ≤ wr (v3 + 1) ∧ wr (v3 + 1) < (L : Int)) (gd ((0 : Int) ≤ wr (v3 + 2) ∧ wr (v3 + 2) < (L : Int)) (gd ((0 : Int) ≤ wr (v3 + 3) ∧ wr (v3 + 3) < (L : Int)) (cl (fX6_set σ (xs (wr (v3 + 1)).toNat) (xs (wr (v3 + 2)).toNat) (xs (wr (v3 + 3)).toNat)) (fun r25 σ26 => gd ((0 : Int) ≤ wr (v3 + 1) ∧ wr (v3 + 1) < (L : Int)) (gd ((0 : Int) ≤ wr (v3 + 2) ∧ wr (v3 + 2) < (L : Int)) (gd ((0 : Int) ≤ wr (v3 + 3) ∧ wr (v3 + 3) < (L : Int)) (cl (fX7_set σ26 (xs (wr (v3 + 1)).toNat) (xs (wr (v3 + 2)).toNat) (xs (wr (v3 + 3)).toNat)) (fun r33 σ34 => if r25 = r33 then lL_law n σ34 xs L (wr (v3 + 6)) else some (0, σ34))))))))) else if qand (xs v3.toNat) 63 = 2 then gd ((0 : Int) ≤ wr (v3 + 1) ∧ wr (v3 + 1) < (L : Int)) (gd ((0 : Int) ≤ wr (v3 + 2) ∧ wr (v3 + 2) < (L : Int)) (gd ((0 : Int) ≤ wr (v3 + 3) ∧ wr (v3 + 3) < (L : Int)) (gd ((0 : Int) ≤ wr (v3 + 4) ∧ wr (v3 + 4) < (L : Int)) (gd ((0 : Int) ≤ wr (v3 + 5) ∧ wr (v3 + 5) < (L : Int)) (cl (fX6_copy σ (xs (wr (v3 + 1)).toNat) (xs (wr (v3 + 2)).toNat) (xs (wr (v3 + 3)).toNat) (xs (wr (v3 + 4)).toNat) (xs (wr (v3 + 5)).toNat)) (fun r45 σ46 => gd ((0 : Int) ≤ wr (v3 + 1) ∧ wr (v3 + 1) < (L : Int)) (gd ((0 : Int) ≤ wr (v3 + 2) ∧ wr (v3 + 2) < (L : Int)) (gd ((0 : Int) ≤ wr (v3 + 3) ∧ wr (v3 + 3) < (L : Int)) (gd ((0 : Int) ≤ wr (v3 + 4) ∧ wr (v3 + 4) < (L : Int)) (gd ((0 : Int) ≤ wr (v3 + 5) ∧ wr (v3 + 5) < (L : Int)) (cl (fX7_copy σ46 (xs (wr (v3 + 1)).toNat) (xs (wr (v3 + 2)).toNat) (xs (wr (v3 + 3)).toNat) (xs (wr (v3 + 4)).toNat) (xs (wr (v3 + 5)).toNat)) (fun r55 σ56 => if r45 = r55 then lL_law n σ56 xs L (wr (v3 + 6)) else some (0, σ56))))))))))))) else if qand (xs v3.toNat) 63 = 3 then gd ((0 : Int) ≤ wr (v3 + 1) ∧ wr (v3 + 1) < (L : Int)) (cl (fX6_drop σ (xs (wr (v3 + 1)).toNat)) (fun r63 σ64 => gd ((0 : Int) ≤ wr (v3 + 1) ∧ wr (v3 + 1) < (L : Int)) (cl (fX7_drop σ64 (xs (wr (v3 + 1)).toNat)) (fun r69 σ70 => if r63 = r69 then lL_law n σ70 xs L (wr (v3 + 6)) else some (0, σ70))))) else if qand (xs v3.toNat) 63 = 4 then gd ((0 : Int) ≤ wr (v3 + 1) ∧ wr (v3 + 1) < (L : Int)) (cl (fX6_feed σ (xs (wr (v3 + 1)).toNat)) (fun r77 σ78 => gd ((0 : Int) ≤ wr (v3 + 1) ∧ wr (v3 + 1) < (L : Int)) (cl (fX7_feed σ78 (xs (wr (v3 + 1)).toNat)) (fun r83 σ84 => if r77 = r83 then lL_law n σ84 xs L (wr (v3 + 6)) else some (0, σ84))))) else if qand (xs v3.toNat) 63 = 5 then cl (fX6_wood σ) (fun r90 σ91 => cl (fX7_wood σ91) (fun r95 σ96 => if r90 = r95 then lL_law n σ96 xs L (wr (v3 + 6)) else some (0, σ96))) else if qand (xs v3.toNat) 63 = 6 then if fX6_fault σ = fX7_fault σ then lL_law n σ xs L (wr (v3 + 6)) else some (0, σ) else if qand (xs v3.toNat) 63 = 7 then gd ((0 : Int) ≤ wr (v3 + 1) ∧ wr (v3 + 1) < (L : Int)) (cl (fX6_years σ (xs (wr (v3 + 1)).toNat)) (fun r107 σ108 => gd ((0 : Int) ≤ wr (v3 + 1) ∧ wr (v3 + 1) < (L : Int)) (cl (fX7_years σ108 (xs (wr (v3 + 1)).toNat)) (fun r113 σ114 => if r107 = r113 then lL_law n σ114 xs L (wr (v3 + 6)) else some (0, σ114))))) else if qand (xs v3.toNat) 63 = 8 then gd ((0 : Int) ≤ wr (v3 + 1) ∧ wr (v3 + 1) < (L : Int)) (gd ((0 : Int) ≤ wr (v3 + 2) ∧ wr (v3 + 2) < (L : Int)) (gd ((0 : Int) ≤ wr (v3 + 3) ∧ wr (v3 + 3) < (L : Int)) (gd ((0 : Int) ≤ wr (v3 + 4) ∧ wr (v3 + 4) < (L : Int)) (cl (fX6_cut σ (xs (wr (v3 + 1)).toNat) (xs (wr (v3 + 2)).toNat) (xs (wr (v3 + 3)).toNat) (xs (wr (v3 + 4)).toNat)) (fun r124 σ125 => gd ((0 : Int) ≤ wr (v3 + 1) ∧ wr (v3 + 1) < (L : Int)) (gd ((0 : Int) ≤ wr (v3 + 2) ∧ wr (v3 + 2) < (L : Int)) (gd ((0 : Int) ≤ wr (v3 + 3) ∧ wr (v3 + 3) < (L : Int)) (gd ((0 : Int) ≤ wr (v3 + 4) ∧ wr (v3 + 4) < (L : Int)) (cl (fX7_cut_ σ125 (xs (wr (v3 + 1)).toNat) (xs (wr (v3 + 2)).toNat) (xs (wr (v3 + 3)).toNat) (xs (wr (v3 + 4)).toNat)) (fun r133 σ134 => if r124 = r133 then lL_law n σ134 xs L (wr (v3 + 6)) else some (0, σ134))))))))))) else if qand (xs v3.toNat) 63 = 9 then gd ((0 : Int) ≤ wr (v3 + 1) ∧ wr (v3 + 1) < (L : Int)) (gd ((0 : Int) ≤ wr (v3 + 2) ∧ wr (v3 + 2) < (L : Int)) (cl (fX6_anew σ (xs (wr (v3 + 1)).toNat) (xs (wr (v3 + 2)).toNat)) (fun r142 σ143 => gd ((0 : Int) ≤ wr (v3 + 1) ∧ wr (v3 + 1) < (L : Int)) (gd ((0 : Int) ≤ wr (v3 + 2) ∧ wr (v3 + 2) < (L : Int)) (cl (fX7_anew σ143 (xs (wr (v3 + 1)).toNat) (xs (wr (v3 + 2)).toNat)) (fun r149 σ150 => if r142 = r149 then lL_law n σ150 xs L (wr (v3 + 6)) else some (0, σ150))))))) else if qand (xs v3.toNat) 63 = 10 then gd ((0 : Int) ≤ wr (v3 + 1) ∧ wr (v3 + 1) < (L : Int)) (cl (fX6_scrape σ (xs (wr (v3 + 1)).toNat)) (fun r157 σ158 => gd ((0 : Int) ≤ wr (v3 + 1) ∧ wr (v3 + 1) < (L : Int)) (cl (fX7_scrape σ158 (xs (wr (v3 + 1)).toNat)) (fun r163 σ164 => if r157 = r163 then lL_law n σ164 xs L (wr (v3 + 6)) else some (0, σ164))))) else if qand (xs v3.toNat) 63 = 11 then cl (fX6_undo σ) (fun r170 σ171 => cl (fX7_undo σ171) (fun r175 σ176 => if r170 = r175 then lL_law n σ176 xs L (wr (v3 + 6)) else some (0, σ176))) else if qand (xs v3.toNat) 63 = 12 then gd ((0 : Int) ≤ wr (v3 + 1) ∧ wr (v3 + 1) < (L : Int)) (gd ((0 : Int) ≤ wr (v3 + 2) ∧ wr (v3 + 2) < (L : Int)) (cl (fX6_tree σ (xs (wr (v3 + 1)).toNat) (xs (wr (v3 + 2)).toNat)) (fun r184 σ185 => gd ((0 : Int) ≤ wr (v3 + 1) ∧ wr (v3 + 1) < (L : Int)) (gd ((0 : Int) ≤ wr (v3 + 2) ∧ wr (v3 + 2) < (L : Int)) (cl (fX7_tree σ185 (xs (wr (v3 + 1)).toNat) (xs (wr (v3 + 2)).toNat)) (fun r191 σ192 => if r184 = r191 then lL_law n σ192 xs L (wr (v3 + 6)) else some (0, σ192))))))) else if qand (xs v3.toNat) 63 = 13 then gd ((0 : Int) ≤ wr (v3 + 1) ∧ wr (v3 + 1) < (L : Int)) (gd ((0 : Int) ≤ wr (v3 + 2) ∧ wr (v3 + 2) < (L : Int)) (cl (fX6_cutHas σ (xs (wr (v3 + 1)).toNat) (xs (wr (v3 + 2)).toNat)) (fun r200 σ201 => gd ((0 : Int) ≤ wr (v3 + 1) ∧ wr (v3 + 1) < (L : Int)) (gd ((0 : Int) ≤ wr (v3 + 2) ∧ wr (v3 + 2) < (L : Int)) (cl (fX7_cutHas σ201 (xs (wr (v3 + 1)).toNat) (xs (wr (v3 + 2)).toNat)) (fun r207 σ208 => if r200 = r207 then lL_law n σ208 xs L (wr (v3 + 6)) else some (0, σ208))))))) else if qand (xs v3.toNat) 63 = 14 then gd ((0 : Int) ≤ wr (v3 + 1) ∧ wr (v3 + 1) < (L : Int)) (gd ((0 : Int) ≤ wr (v3 + 2) ∧ wr (v3 + 2) < (L : Int)) (cl (fX6_apart σ (xs (wr (v3 + 1)).toNat) (xs (wr (v3 + 2)).toNat)) (fun r216 σ217 => gd ((0 : Int) ≤ wr (v3 + 1) ∧ wr (v3 + 1) < (L : Int)) (gd ((0 : Int) ≤ wr (v3 + 2) ∧ wr (v3 + 2) < (L : Int)) (cl (fX7_apart σ217 (xs (wr (v3 + 1)).toNat) (xs (wr (v3 + 2)).toNat)) (fun r223 σ224 => if r216 = r223 then lL_law n σ224 xs L (wr (v3 + 6)) else some (0, σ224))))))) else if qand (xs v3.toNat) 63 = 15 then gd ((0 : Int) ≤ wr (v3 + 1) ∧ wr (v3 + 1) < (L : Int)) (gd ((0 : Int) ≤ wr (v3 + 2) ∧ wr (v3 + 2) < (L : Int)) (cl (fX6_together σ (xs (wr (v3 + 1)).toNat) (xs (wr (v3 + 2)).toNat)) (fun r232 σ233 => gd ((0 : Int) ≤ wr (v3 + 1) ∧ wr (v3 + 1) < (L : Int)) (gd ((0 : Int) ≤ wr (v3 + 2) ∧ wr (v3 + 2) < (L : Int)) (cl (fX7_together σ233 (xs (wr (v3 + 1)).toNat) (xs (wr (v3 + 2)).toNat)) (fun r239 σ240 => if r232 = r239 then lL_law n σ240 xs L (wr (v3 + 6)) else some (0, σ240))))))) else if qand (xs v3.toNat) 63 = 16 then gd ((0 : Int) ≤ wr (v3 + 1) ∧ wr (v3 + 1) < (L : Int)) (gd ((0 : Int) ≤ wr (v3 + 2) ∧ wr (v3 + 2) < (L : Int)) (cl (fX6_girth σ (xs (wr (v3 + 1)).toNat) (xs (wr (v3 + 2)).toNat)) (fun r248 σ249 => gd ((0 : Int) ≤ wr (v3 + 1) ∧ wr (v3 + 1) < (L : Int)) (gd ((0 : Int) ≤ wr (v3 + 2) ∧ wr (v3 + 2) < (L : Int)) (cl (fX7_girth σ249 (xs (wr (v3 + 1)).toNat) (xs (wr (v3 + 2)).toNat)) (fun r255 σ256 => if r248 = r255 then lL_law n σ256 xs L (wr (v3 + 6)) else some (0, σ256))))))) else if qand (xs v3.toNat) 63 = 17 then gd ((0 : Int) ≤ wr (v3 + 1) ∧ wr (v3 + 1) < (L : Int)) (cl (fX6_left σ (xs (wr (v3 + 1)).toNat)) (fun r263 σ264 => gd ((0 : Int) ≤ wr (v3 + 1) ∧ wr (v3 + 1) < (L : Int)) (cl (fX7_left σ264 (xs (wr (v3 + 1)).toNat)) (fun r269 σ270 => if r263 = r269 then lL_law n σ270 xs L (wr (v3 + 6)) else some (0, σ270))))) else if qand (xs v3.toNat) 63 = 18 then gd ((0 : Int) ≤ wr (v3 + 1) ∧ wr (v3 + 1) < (L : Int)) (gd ((0 : Int) ≤ wr (v3 + 2) ∧ wr (v3 + 2) < (L : Int)) (cl (fX6_free σ (xs (wr (v3 + 1)).toNat) (xs (wr (v3 + 2)).toNat)) (fun r278 σ279 => gd ((0 : Int) ≤ wr (v3 + 1) ∧ wr (v3 + 1) < (L : Int)) (gd ((0 : Int) ≤ wr (v3 + 2) ∧ wr (v3 + 2) < (L : Int)) (cl (fX7_free σ279 (xs (wr (v3 + 1)).toNat) (xs (wr (v3 + 2)).toNat)) (fun r285 σ286 => if r278 = r285 then lL_law n σ286 xs L (wr (v3 + 6)) else some (0, σ286))))))) else if qand (xs v3.toNat) 63 = 19 then gd ((0 : Int) ≤ wr (v3 + 1) ∧ wr (v3 + 1) < (L : Int)) (gd ((0 : Int) ≤ wr (v3 + 2) ∧ wr (v3 + 2) < (L : Int)) (gd ((0 : Int) ≤ wr (v3 + 3) ∧ wr (v3 + 3) < (L : Int)) (cl (fX6_holds σ (xs (wr (v3 + 1)).toNat) (xs (wr (v3 + 2)).toNat) (xs (wr (v3 + 3)).toNat)) (fun r295 σ296 => gd ((0 : Int) ≤ wr (v3 + 1) ∧ wr (v3 + 1) < (L : Int)) (gd ((0 : Int) ≤ wr (v3 + 2) ∧ wr (v3 + 2) < (L : Int)) (gd ((0 : Int) ≤ wr (v3 + 3) ∧ wr (v3 + 3) < (L : Int)) (cl (fX7_holds σ296 (xs (wr (v3 + 1)).toNat) (xs (wr (v3 + 2)).toNat) (xs (wr (v3 + 3)).toNat)) (fun r303 σ304 => if r295 = r303 then lL_law n σ304 xs L (wr (v3 + 6)) else some (0, σ304))))))))) else if qand (xs v3.toNat) 63 = 20 then gd ((0 : Int) ≤ wr (v3 + 1) ∧ wr (v3 + 1) < (L : Int)) (gd ((0 : Int) ≤ wr (v3 + 2) ∧ wr (v3 + 2) < (L : Int)) (cl (fX6_deep σ (xs (wr (v3 + 1)).toNat) (xs (wr (v3 + 2)).toNat)) (fun r312 σ313 => gd ((0 : Int) ≤ wr (v3 + 1) ∧ wr (v3 + 1) < (L : Int)) (gd ((0 : Int) ≤ wr (v3 + 2) ∧ wr (v3 + 2) < (L : Int)) (cl (fX7_deep σ313 (xs (wr (v3 + 1)).toNat) (xs (wr (v3 + 2)).toNat)) (fun r319 σ320 => if r312 = r319 then lL_law n σ320 xs L (wr (v3 + 6)) else some (0, σ320))))))) else if qand (xs v3.toNat) 63 = 21 then gd ((0 : Int) ≤ wr (v3 + 1) ∧ wr (v3 + 1) < (L : Int)) (gd ((0 : Int) ≤ wr (v3 + 2) ∧ wr (v3 + 2) < (L : Int)) (cl (fX6_meet σ (xs (wr (v3 + 1)).toNat) (xs (wr (v3 + 2)).toNat)) (fun r328 σ329 => gd ((0 : Int) ≤ wr (v3 + 1) ∧ wr (v3 + 1) < (L : Int)) (gd ((0 : Int) ≤ wr (v3 + 2) ∧ wr (v3 + 2) < (L : Int)) (cl (fX7_meet σ329 (xs (wr (v3 + 1)).toNat) (xs (wr (v3 + 2)).toNat)) (fun r335 σ336 => if r328 = r335 then lL_law n σ336 xs L (wr (v3 + 6)) else some (0, σ336))))))) else if qand (xs v3.toNat) 63 = 22 then gd ((0 : Int) ≤ wr (v3 + 1) ∧ wr (v3 + 1) < (L : Int)) (gd ((0 : Int) ≤ wr (v3 + 2) ∧ wr (v3 + 2) < (L : Int)) (cl (fX6_rings σ (xs (wr (v3 + 1)).toNat) (xs (wr (v3 + 2)).toNat)) (fun r344 σ345 => gd ((0 : Int) ≤ wr (v3 + 1) ∧ wr (v3 + 1) < (L : Int)) (gd ((0 : Int) ≤ wr (v3 + 2) ∧ wr (v3 + 2) < (L : Int)) (cl (fX7_rings σ345 (xs (wr (v3 + 1)).toNat) (xs (wr (v3 + 2)).toNat)) (fun r351 σ352 => if r344 = r351 then lL_law n σ352 xs L (wr (v3 + 6)) else some (0, σ352))))))) else if qand (xs v3.toNat) 63 = 23 then gd ((0 : Int) ≤ wr (v3 + 1) ∧ wr (v3 + 1) < (L : Int)) (gd ((0 : Int) ≤ wr (v3 + 2) ∧ wr (v3 + 2) < (L : Int)) (gd ((0 : Int) ≤ wr (v3 + 3) ∧ wr (v3 + 3) < (L : Int)) (gd ((0 : Int) ≤ wr (v3 + 4) ∧ wr (v3 + 4) < (L : Int)) (cl (fX6_gaps σ (xs (wr (v3 + 1)).toNat) (xs (wr (v3 + 2)).toNat) (xs (wr (v3 + 3)).toNat) (xs (wr (v3 + 4)).toNat)) (fun r362 σ363 => gd ((0 : Int) ≤ wr (v3 + 1) ∧ wr (v3 + 1) < (L : Int)) (gd ((0 : Int) ≤ wr (v3 + 2) ∧ wr (v3 + 2) < (L : Int)) (gd ((0 : Int) ≤ wr (v3 + 3) ∧ wr (v3 + 3) < (L : Int)) (gd ((0 : Int) ≤ wr (v3 + 4) ∧ wr (v3 + 4) < (L : Int)) (cl (fX7_gaps σ363 (xs (wr (v3 + 1)).toNat) (xs (wr (v3 + 2)).toNat) (xs (wr (v3 + 3)).toNat) (xs (wr (v3 + 4)).toNat)) (fun r371 σ372 => if r362 = r371 then lL_law n σ372 xs L (wr (v3 + 6)) else some (0, σ372))))))))))) else if qand (xs v3.toNat) 63 = 24 then gd ((0 : Int) ≤ wr (v3 + 1) ∧ wr (v3 + 1) < (L : Int)) (gd ((0 : Int) ≤ wr (v3 + 2) ∧ wr (v3 + 2) < (L : Int)) (gd ((0 : Int) ≤ wr (v3 + 3) ∧ wr (v3 + 3) < (L : Int)) (gd ((0 : Int) ≤ wr (v3 + 4) ∧ wr (v3 + 4) < (L : Int)) (gd ((0 : Int) ≤ wr (v3 + 5) ∧ wr (v3 + 5) < (L : Int)) (cl (fX6_which σ (xs (wr (v3 + 1)).toNat) (xs (wr (v3 + 2)).toNat) (xs (wr (v3 + 3)).toNat) (xs (wr (v3 + 4)).toNat) (xs (wr (v3 + 5)).toNat)) (fun r383 σ384 => gd ((0 : Int) ≤ wr (v3 + 1) ∧ wr (v3 + 1) < (L : Int)) (gd ((0 : Int) ≤ wr (v3 + 2) ∧ wr (v3 + 2) < (L : Int)) (gd ((0 : Int) ≤ wr (v3 + 3) ∧ wr (v3 + 3) < (L : Int)) (gd ((0 : Int) ≤ wr (v3 + 4) ∧ wr (v3 + 4) < (L : Int)) (gd ((0 : Int) ≤ wr (v3 + 5) ∧ wr (v3 + 5) < (L : Int)) (cl (fX7_which σ384 (xs (wr (v3 + 1)).toNat) (xs (wr (v3 + 2)).toNat) (xs (wr (v3 + 3)).toNat) (xs (wr (v3 + 4)).toNat) (xs (wr (v3 + 5)).toNat)) (fun r393 σ394 => if r383 = r393 then lL_law n σ394 xs L (wr (v3 + 6)) else some (0, σ394))))))))))))) else if qand (xs v3.toNat) 63 = 25 then gd ((0 : Int) ≤ wr (v3 + 1) ∧ wr (v3 + 1) < (L : Int)) (gd ((0 : Int) ≤ wr (v3 + 2) ∧ wr (v3 + 2) < (L : Int)) (gd ((0 : Int) ≤ wr (v3 + 3) ∧ wr (v3 + 3) < (L : Int)) (gd ((0 : Int) ≤ wr (v3 + 4) ∧ wr (v3 + 4) < (L : Int)) (cl (fX6_storm σ (xs (wr (v3 + 1)).toNat) (xs (wr (v3 + 2)).toNat) (xs (wr (v3 + 3)).toNat) (xs (wr (v3 + 4)).toNat)) (fun r404 σ405 => gd ((0 : Int) ≤ wr (v3 + 1) ∧ wr (v3 + 1) < (L : Int)) (gd ((0 : Int) ≤ wr (v3 + 2) ∧ wr (v3 + 2) < (L : Int)) (gd ((0 : Int) ≤ wr (v3 + 3) ∧ wr (v3 + 3) < (L : Int)) (gd ((0 : Int) ≤ wr (v3 + 4) ∧ wr (v3 + 4) < (L : Int)) (cl (fX7_storm σ405 (xs (wr (v3 + 1)).toNat) (xs (wr (v3 + 2)).toNat) (xs (wr (v3 + 3)).toNat) (xs (wr (v3 + 4)).toNat)) (fun r413 σ414 => if r404 = r413 then lL_law n σ414 xs L (wr (v3 + 6)) else some (0, σ414))))))))))) else if qand (xs v3.toNat) 63 = 26 then gd ((0 : Int) ≤ wr (v3 + 1) ∧ wr (v3 + 1) < (L : Int)) (cl (fX6_image σ (xs (wr (v3 + 1)).toNat)) (fun r421 σ422 => gd ((0 : Int) ≤ wr (v3 + 1) ∧ wr (v3 + 1) < (L : Int)) (cl (fX7_image σ422 (xs (wr (v3 + 1)).toNat)) (fun r427 σ428 => if r421 = r427 then lL_law n σ428 xs L (wr (v3 + 6)) else some (0, σ428))))) else if qand (xs v3.toNat) 63 = 27 then gd ((0 : Int) ≤ wr (v3 + 1) ∧ wr (v3 + 1) < (L : Int)) (cl (fX6_restore σ (xs (wr (v3 + 1)).toNat)) (fun r435 σ436 => gd ((0 : Int) ≤ wr (v3 + 1) ∧ wr (v3 + 1) < (L : Int)) (cl (fX7_restore σ436 (xs (wr (v3 + 1)).toNat)) (fun r441 σ442 => if r435 = r441 then lL_law n σ442 xs L (wr (v3 + 6)) else some (0, σ442))))) else if qand (xs v3.toNat) 63 = 28 then gd ((0 : Int) ≤ wr (v3 + 1) ∧ wr (v3 + 1) < (L : Int)) (cl (fX6_kind σ (xs (wr (v3 + 1)).toNat)) (fun r449 σ450 => gd ((0 : Int) ≤ wr (v3 + 1) ∧ wr (v3 + 1) < (L : Int)) (cl (fX7_kind σ450 (xs (wr (v3 + 1)).toNat)) (fun r455 σ456 => if r449 = r455 then lL_law n σ456 xs L (wr (v3 + 6)) else some (0, σ456))))) else if qand (xs v3.toNat) 63 = 29 then gd ((0 : Int) ≤ wr (v3 + 1) ∧ wr (v3 + 1) < (L : Int)) (gd ((0 : Int) ≤ wr (v3 + 2) ∧ wr (v3 + 2) < (L : Int)) (cl (fX6_as σ (xs (wr (v3 + 1)).toNat) (xs (wr (v3 + 2)).toNat)) (fun r464 σ465 => gd ((0 : Int) ≤ wr (v3 + 1) ∧ wr (v3 + 1) < (L : Int)) (gd ((0 : Int) ≤ wr (v3 + 2) ∧ wr (v3 + 2) < (L : Int)) (cl (fX7_as σ465 (xs (wr (v3 + 1)).toNat) (xs (wr (v3 + 2)).toNat)) (fun r471 σ472 => if r464 = r471 then lL_law n σ472 xs L (wr (v3 + 6)) else some (0, σ472))))))) else if qand (xs v3.toNat) 63 = 30 then gd ((0 : Int) ≤ wr (v3 + 1) ∧ wr (v3 + 1) < (L : Int)) (gd ((0 : Int) ≤ wr (v3 + 2) ∧ wr (v3 + 2) < (L : Int)) (cl (fX6_ask σ (xs (wr (v3 + 1)).toNat) (xs (wr (v3 + 2)).toNat)) (fun r480 σ481 => gd ((0 : Int) ≤ wr (v3 + 1) ∧ wr (v3 + 1) < (L : Int)) (gd ((0 : Int) ≤ wr (v3 + 2) ∧ wr (v3 + 2) < (L : Int)) (cl (fX7_ask σ481 (xs (wr (v3 + 1)).toNat) (xs (wr (v3 + 2)).toNat)) (fun r487 σ488 => if r480 = r487 then lL_law n σ488 xs L (wr (v3 + 6)) else some (0, σ488))))))) else if qand (xs v3.toNat) 63 = 31 then gd ((0 : Int) ≤ wr (v3 + 1) ∧ wr (v3 + 1) < (L : Int)) (cl (fX6_trace σ (xs (wr (v3 + 1)).toNat)) (fun r495 σ496 => gd ((0 : Int) ≤ wr (v3 + 1) ∧ wr (v3 + 1) < (L : Int)) (cl (fX7_trace σ496 (xs (wr (v3 + 1)).toNat)) (fun r501 σ502 => if r495 = r501 then lL_law n σ502 xs L (wr (v3 + 6)) else some (0, σ502))))) else if qand (xs v3.toNat) 63 = 32 then gd ((0 : Int) ≤ wr (v3 + 1) ∧ wr (v3 + 1) < (L : Int)) (cl (fX6_count σ (xs (wr (v3 + 1)).toNat)) (fun r509 σ510 => gd ((0 : Int) ≤ wr (v3 + 1) ∧ wr (v3 + 1) < (L : Int)) (cl (fX7_count σ510 (xs (wr (v3 + 1)).toNat)) (fun r515 σ516 => if r509 = r515 then lL_law n σ516 xs L (wr (v3 + 6)) else some (0, σ516))))) else if qand (xs v3.toNat) 63 = 33 then if fX6_status σ = fX7_status σ then lL_law n σ xs L (wr (v3 + 6)) else some (0, σ) else lL_law n σ xs L (wr (v3 + 6)))
theorem lL_law_e0 (n : Nat) (σ : Hp) (xs : Nat → Int) (L : Nat) (v3 : Int) : lL_law (n + 1) σ xs L v3 =
    if wr ((L : Int) - 6) < v3 then some (1, σ) else gd ((0 : Int) ≤ v3 ∧ v3 < (L : Int)) (if qand (xs v3.toNat) 63 = 0 then gd ((0 : Int) ≤ wr (v3 + 1) ∧ wr (v3 + 1) < (L : Int)) (gd ((0 : Int) ≤ wr (v3 + 2) ∧ wr (v3 + 2) < (L : Int)) (gd ((0 : Int) ≤ wr (v3 + 3) ∧ wr (v3 + 3) < (L : Int)) (cl (fX6_row σ (xs (wr (v3 + 1)).toNat) (xs (wr (v3 + 2)).toNat) (xs (wr (v3 + 3)).toNat)) (fun r7 σ8 => gd ((0 : Int) ≤ wr (v3 + 1) ∧ wr (v3 + 1) < (L : Int)) (gd ((0 : Int) ≤ wr (v3 + 2) ∧ wr (v3 + 2) < (L : Int)) (gd ((0 : Int) ≤ wr (v3 + 3) ∧ wr (v3 + 3) < (L : Int)) (cl (fX7_row σ8 (xs (wr (v3 + 1)).toNat) (xs (wr (v3 + 2)).toNat) (xs (wr (v3 + 3)).toNat)) (fun r15 σ16 => if r7 = r15 then lL_law n σ16 xs L (wr (v3 + 6)) else some (0, σ16))))))))) else if qand (xs v3.toNat) 63 = 1 then gd ((0 : Int) ≤ wr (v3 + 1) ∧ wr (v3 + 1) < (L : Int)) (gd ((0 : Int) ≤ wr (v3 + 2) ∧ wr (v3 + 2) < (L : Int)) (gd ((0 : Int) ≤ wr (v3 + 3) ∧ wr (v3 + 3) < (L : Int)) (cl (fX6_set σ (xs (wr (v3 + 1)).toNat) (xs (wr (v3 + 2)).toNat) (xs (wr (v3 + 3)).toNat)) (fun r25 σ26 => gd ((0 : Int) ≤ wr (v3 + 1) ∧ wr (v3 + 1) < (L : Int)) (gd ((0 : Int) ≤ wr (v3 + 2) ∧ wr (v3 + 2) < (L : Int)) (gd ((0 : Int) ≤ wr (v3 + 3) ∧ wr (v3 + 3) < (L : Int)) (cl (fX7_set σ26 (xs (wr (v3 + 1)).toNat) (xs (wr (v3 + 2)).toNat) (xs (wr (v3 + 3)).toNat)) (fun r33 σ34 => if r25 = r33 then lL_law n σ34 xs L (wr (v3 + 6)) else some (0, σ34))))))))) else if qand (xs v3.toNat) 63 = 2 then gd ((0 : Int) ≤ wr (v3 + 1) ∧ wr (v3 + 1) < (L : Int)) (gd ((0 : Int) ≤ wr (v3 + 2) ∧ wr (v3 + 2) < (L : Int)) (gd ((0 : Int) ≤ wr (v3 + 3) ∧ wr (v3 + 3) < (L : Int)) (gd ((0 : Int) ≤ wr (v3 + 4) ∧ wr (v3 + 4) < (L : Int)) (gd ((0 : Int) ≤ wr (v3 + 5) ∧ wr (v3 + 5) < (L : Int)) (cl (fX6_copy σ (xs (wr (v3 + 1)).toNat) (xs (wr (v3 + 2)).toNat) (xs (wr (v3 + 3)).toNat) (xs (wr (v3 + 4)).toNat) (xs (wr (v3 + 5)).toNat)) (fun r45 σ46 => gd ((0 : Int) ≤ wr (v3 + 1) ∧ wr (v3 + 1) < (L : Int)) (gd ((0 : Int) ≤ wr (v3 + 2) ∧ wr (v3 + 2) < (L : Int)) (gd ((0 : Int) ≤ wr (v3 + 3) ∧ wr (v3 + 3) < (L : Int)) (gd ((0 : Int) ≤ wr (v3 + 4) ∧ wr (v3 + 4) < (L : Int)) (gd ((0 : Int) ≤ wr (v3 + 5) ∧ wr (v3 + 5) < (L : Int)) (cl (fX7_copy σ46 (xs (wr (v3 + 1)).toNat) (xs (wr (v3 + 2)).toNat) (xs (wr (v3 + 3)).toNat) (xs (wr (v3 + 4)).toNat) (xs (wr (v3 + 5)).toNat)) (fun r55 σ56 => if r45 = r55 then lL_law n σ56 xs L (wr (v3 + 6)) else some (0, σ56))))))))))))) else if qand (xs v3.toNat) 63 = 3 then gd ((0 : Int) ≤ wr (v3 + 1) ∧ wr (v3 + 1) < (L : Int)) (cl (fX6_drop σ (xs (wr (v3 + 1)).toNat)) (fun r63 σ64 => gd ((0 : Int) ≤ wr (v3 + 1) ∧ wr (v3 + 1) < (L : Int)) (cl (fX7_drop σ64 (xs (wr (v3 + 1)).toNat)) (fun r69 σ70 => if r63 = r69 then lL_law n σ70 xs L (wr (v3 + 6)) else some (0, σ70))))) else if qand (xs v3.toNat) 63 = 4 then gd ((0 : Int) ≤ wr (v3 + 1) ∧ wr (v3 + 1) < (L : Int)) (cl (fX6_feed σ (xs (wr (v3 + 1)).toNat)) (fun r77 σ78 => gd ((0 : Int) ≤ wr (v3 + 1) ∧ wr (v3 + 1) < (L : Int)) (cl (fX7_feed σ78 (xs (wr (v3 + 1)).toNat)) (fun r83 σ84 => if r77 = r83 then lL_law n σ84 xs L (wr (v3 + 6)) else some (0, σ84))))) else if qand (xs v3.toNat) 63 = 5 then cl (fX6_wood σ) (fun r90 σ91 => cl (fX7_wood σ91) (fun r95 σ96 => if r90 = r95 then lL_law n σ96 xs L (wr (v3 + 6)) else some (0, σ96))) else if qand (xs v3.toNat) 63 = 6 then if fX6_fault σ = fX7_fault σ then lL_law n σ xs L (wr (v3 + 6)) else some (0, σ) else if qand (xs v3.toNat) 63 = 7 then gd ((0 : Int) ≤ wr (v3 + 1) ∧ wr (v3 + 1) < (L : Int)) (cl (fX6_years σ (xs (wr (v3 + 1)).toNat)) (fun r107 σ108 => gd ((0 : Int) ≤ wr (v3 + 1) ∧ wr (v3 + 1) < (L : Int)) (cl (fX7_years σ108 (xs (wr (v3 + 1)).toNat)) (fun r113 σ114 => if r107 = r113 then lL_law n σ114 xs L (wr (v3 + 6)) else some (0, σ114))))) else if qand (xs v3.toNat) 63 = 8 then gd ((0 : Int) ≤ wr (v3 + 1) ∧ wr (v3 + 1) < (L : Int)) (gd ((0 : Int) ≤ wr (v3 + 2) ∧ wr (v3 + 2) < (L : Int)) (gd ((0 : Int) ≤ wr (v3 + 3) ∧ wr (v3 + 3) < (L : Int)) (gd ((0 : Int) ≤ wr (v3 + 4) ∧ wr (v3 + 4) < (L : Int)) (cl (fX6_cut σ (xs (wr (v3 + 1)).toNat) (xs (wr (v3 + 2)).toNat) (xs (wr (v3 + 3)).toNat) (xs (wr (v3 + 4)).toNat)) (fun r124 σ125 => gd ((0 : Int) ≤ wr (v3 + 1) ∧ wr (v3 + 1) < (L : Int)) (gd ((0 : Int) ≤ wr (v3 + 2) ∧ wr (v3 + 2) < (L : Int)) (gd ((0 : Int) ≤ wr (v3 + 3) ∧ wr (v3 + 3) < (L : Int)) (gd ((0 : Int) ≤ wr (v3 + 4) ∧ wr (v3 + 4) < (L : Int)) (cl (fX7_cut_ σ125 (xs (wr (v3 + 1)).toNat) (xs (wr (v3 + 2)).toNat) (xs (wr (v3 + 3)).toNat) (xs (wr (v3 + 4)).toNat)) (fun r133 σ134 => if r124 = r133 then lL_law n σ134 xs L (wr (v3 + 6)) else some (0, σ134))))))))))) else if qand (xs v3.toNat) 63 = 9 then gd ((0 : Int) ≤ wr (v3 + 1) ∧ wr (v3 + 1) < (L : Int)) (gd ((0 : Int) ≤ wr (v3 + 2) ∧ wr (v3 + 2) < (L : Int)) (cl (fX6_anew σ (xs (wr (v3 + 1)).toNat) (xs (wr (v3 + 2)).toNat)) (fun r142 σ143 => gd ((0 : Int) ≤ wr (v3 + 1) ∧ wr (v3 + 1) < (L : Int)) (gd ((0 : Int) ≤ wr (v3 + 2) ∧ wr (v3 + 2) < (L : Int)) (cl (fX7_anew σ143 (xs (wr (v3 + 1)).toNat) (xs (wr (v3 + 2)).toNat)) (fun r149 σ150 => if r142 = r149 then lL_law n σ150 xs L (wr (v3 + 6)) else some (0, σ150))))))) else if qand (xs v3.toNat) 63 = 10 then gd ((0 : Int) ≤ wr (v3 + 1) ∧ wr (v3 + 1) < (L : Int)) (cl (fX6_scrape σ (xs (wr (v3 + 1)).toNat)) (fun r157 σ158 => gd ((0 : Int) ≤ wr (v3 + 1) ∧ wr (v3 + 1) < (L : Int)) (cl (fX7_scrape σ158 (xs (wr (v3 + 1)).toNat)) (fun r163 σ164 => if r157 = r163 then lL_law n σ164 xs L (wr (v3 + 6)) else some (0, σ164))))) else if qand (xs v3.toNat) 63 = 11 then cl (fX6_undo σ) (fun r170 σ171 => cl (fX7_undo σ171) (fun r175 σ176 => if r170 = r175 then lL_law n σ176 xs L (wr (v3 + 6)) else some (0, σ176))) else if qand (xs v3.toNat) 63 = 12 then gd ((0 : Int) ≤ wr (v3 + 1) ∧ wr (v3 + 1) < (L : Int)) (gd ((0 : Int) ≤ wr (v3 + 2) ∧ wr (v3 + 2) < (L : Int)) (cl (fX6_tree σ (xs (wr (v3 + 1)).toNat) (xs (wr (v3 + 2)).toNat)) (fun r184 σ185 => gd ((0 : Int) ≤ wr (v3 + 1) ∧ wr (v3 + 1) < (L : Int)) (gd ((0 : Int) ≤ wr (v3 + 2) ∧ wr (v3 + 2) < (L : Int)) (cl (fX7_tree σ185 (xs (wr (v3 + 1)).toNat) (xs (wr (v3 + 2)).toNat)) (fun r191 σ192 => if r184 = r191 then lL_law n σ192 xs L (wr (v3 + 6)) else some (0, σ192))))))) else if qand (xs v3.toNat) 63 = 13 then gd ((0 : Int) ≤ wr (v3 + 1) ∧ wr (v3 + 1) < (L : Int)) (gd ((0 : Int) ≤ wr (v3 + 2) ∧ wr (v3 + 2) < (L : Int)) (cl (fX6_cutHas σ (xs (wr (v3 + 1)).toNat) (xs (wr (v3 + 2)).toNat)) (fun r200 σ201 => gd ((0 : Int) ≤ wr (v3 + 1) ∧ wr (v3 + 1) < (L : Int)) (gd ((0 : Int) ≤ wr (v3 + 2) ∧ wr (v3 + 2) < (L : Int)) (cl (fX7_cutHas σ201 (xs (wr (v3 + 1)).toNat) (xs (wr (v3 + 2)).toNat)) (fun r207 σ208 => if r200 = r207 then lL_law n σ208 xs L (wr (v3 + 6)) else some (0, σ208))))))) else if qand (xs v3.toNat) 63 = 14 then gd ((0 : Int) ≤ wr (v3 + 1) ∧ wr (v3 + 1) < (L : Int)) (gd ((0 : Int) ≤ wr (v3 + 2) ∧ wr (v3 + 2) < (L : Int)) (cl (fX6_apart σ (xs (wr (v3 + 1)).toNat) (xs (wr (v3 + 2)).toNat)) (fun r216 σ217 => gd ((0 : Int) ≤ wr (v3 + 1) ∧ wr (v3 + 1) < (L : Int)) (gd ((0 : Int) ≤ wr (v3 + 2) ∧ wr (v3 + 2) < (L : Int)) (cl (fX7_apart σ217 (xs (wr (v3 + 1)).toNat) (xs (wr (v3 + 2)).toNat)) (fun r223 σ224 => if r216 = r223 then lL_law n σ224 xs L (wr (v3 + 6)) else some (0, σ224))))))) else if qand (xs v3.toNat) 63 = 15 then gd ((0 : Int) ≤ wr (v3 + 1) ∧ wr (v3 + 1) < (L : Int)) (gd ((0 : Int) ≤ wr (v3 + 2) ∧ wr (v3 + 2) < (L : Int)) (cl (fX6_together σ (xs (wr (v3 + 1)).toNat) (xs (wr (v3 + 2)).toNat)) (fun r232 σ233 => gd ((0 : Int) ≤ wr (v3 + 1) ∧ wr (v3 + 1) < (L : Int)) (gd ((0 : Int) ≤ wr (v3 + 2) ∧ wr (v3 + 2) < (L : Int)) (cl (fX7_together σ233 (xs (wr (v3 + 1)).toNat) (xs (wr (v3 + 2)).toNat)) (fun r239 σ240 => if r232 = r239 then lL_law n σ240 xs L (wr (v3 + 6)) else some (0, σ240))))))) else if qand (xs v3.toNat) 63 = 16 then gd ((0 : Int) ≤ wr (v3 + 1) ∧ wr (v3 + 1) < (L : Int)) (gd ((0 : Int) ≤ wr (v3 + 2) ∧ wr (v3 + 2) < (L : Int)) (cl (fX6_girth σ (xs (wr (v3 + 1)).toNat) (xs (wr (v3 + 2)).toNat)) (fun r248 σ249 => gd ((0 : Int) ≤ wr (v3 + 1) ∧ wr (v3 + 1) < (L : Int)) (gd ((0 : Int) ≤ wr (v3 + 2) ∧ wr (v3 + 2) < (L : Int)) (cl (fX7_girth σ249 (xs (wr (v3 + 1)).toNat) (xs (wr (v3 + 2)).toNat)) (fun r255 σ256 => if r248 = r255 then lL_law n σ256 xs L (wr (v3 + 6)) else some (0, σ256))))))) else if qand (xs v3.toNat) 63 = 17 then gd ((0 : Int) ≤ wr (v3 + 1) ∧ wr (v3 + 1) < (L : Int)) (cl (fX6_left σ (xs (wr (v3 + 1)).toNat)) (fun r263 σ264 => gd ((0 : Int) ≤ wr (v3 + 1) ∧ wr (v3 + 1) < (L : Int)) (cl (fX7_left σ264 (xs (wr (v3 + 1)).toNat)) (fun r269 σ270 => if r263 = r269 then lL_law n σ270 xs L (wr (v3 + 6)) else some (0, σ270))))) else if qand (xs v3.toNat) 63 = 18 then gd ((0 : Int) ≤ wr (v3 + 1) ∧ wr (v3 + 1) < (L : Int)) (gd ((0 : Int) ≤ wr (v3 + 2) ∧ wr (v3 + 2) < (L : Int)) (cl (fX6_free σ (xs (wr (v3 + 1)).toNat) (xs (wr (v3 + 2)).toNat)) (fun r278 σ279 => gd ((0 : Int) ≤ wr (v3 + 1) ∧ wr (v3 + 1) < (L : Int)) (gd ((0 : Int) ≤ wr (v3 + 2) ∧ wr (v3 + 2) < (L : Int)) (cl (fX7_free σ279 (xs (wr (v3 + 1)).toNat) (xs (wr (v3 + 2)).toNat)) (fun r285 σ286 => if r278 = r285 then lL_law n σ286 xs L (wr (v3 + 6)) else some (0, σ286))))))) else if qand (xs v3.toNat) 63 = 19 then gd ((0 : Int) ≤ wr (v3 + 1) ∧ wr (v3 + 1) < (L : Int)) (gd ((0 : Int) ≤ wr (v3 + 2) ∧ wr (v3 + 2) < (L : Int)) (gd ((0 : Int) ≤ wr (v3 + 3) ∧ wr (v3 + 3) < (L : Int)) (cl (fX6_holds σ (xs (wr (v3 + 1)).toNat) (xs (wr (v3 + 2)).toNat) (xs (wr (v3 + 3)).toNat)) (fun r295 σ296 => gd ((0 : Int) ≤ wr (v3 + 1) ∧ wr (v3 + 1) < (L : Int)) (gd ((0 : Int) ≤ wr (v3 + 2) ∧ wr (v3 + 2) < (L : Int)) (gd ((0 : Int) ≤ wr (v3 + 3) ∧ wr (v3 + 3) < (L : Int)) (cl (fX7_holds σ296 (xs (wr (v3 + 1)).toNat) (xs (wr (v3 + 2)).toNat) (xs (wr (v3 + 3)).toNat)) (fun r303 σ304 => if r295 = r303 then lL_law n σ304 xs L (wr (v3 + 6)) else some (0, σ304))))))))) else if qand (xs v3.toNat) 63 = 20 then gd ((0 : Int) ≤ wr (v3 + 1) ∧ wr (v3 + 1) < (L : Int)) (gd ((0 : Int) ≤ wr (v3 + 2) ∧ wr (v3 + 2) < (L : Int)) (cl (fX6_deep σ (xs (wr (v3 + 1)).toNat) (xs (wr (v3 + 2)).toNat)) (fun r312 σ313 => gd ((0 : Int) ≤ wr (v3 + 1) ∧ wr (v3 + 1) < (L : Int)) (gd ((0 : Int) ≤ wr (v3 + 2) ∧ wr (v3 + 2) < (L : Int)) (cl (fX7_deep σ313 (xs (wr (v3 + 1)).toNat) (xs (wr (v3 + 2)).toNat)) (fun r319 σ320 => if r312 = r319 then lL_law n σ320 xs L (wr (v3 + 6)) else some (0, σ320))))))) else if qand (xs v3.toNat) 63 = 21 then gd ((0 : Int) ≤ wr (v3 + 1) ∧ wr (v3 + 1) < (L : Int)) (gd ((0 : Int) ≤ wr (v3 + 2) ∧ wr (v3 + 2) < (L : Int)) (cl (fX6_meet σ (xs (wr (v3 + 1)).toNat) (xs (wr (v3 + 2)).toNat)) (fun r328 σ329 => gd ((0 : Int) ≤ wr (v3 + 1) ∧ wr (v3 + 1) < (L : Int)) (gd ((0 : Int) ≤ wr (v3 + 2) ∧ wr (v3 + 2) < (L : Int)) (cl (fX7_meet σ329 (xs (wr (v3 + 1)).toNat) (xs (wr (v3 + 2)).toNat)) (fun r335 σ336 => if r328 = r335 then lL_law n σ336 xs L (wr (v3 + 6)) else some (0, σ336))))))) else if qand (xs v3.toNat) 63 = 22 then gd ((0 : Int) ≤ wr (v3 + 1) ∧ wr (v3 + 1) < (L : Int)) (gd ((0 : Int) ≤ wr (v3 + 2) ∧ wr (v3 + 2) < (L : Int)) (cl (fX6_rings σ (xs (wr (v3 + 1)).toNat) (xs (wr (v3 + 2)).toNat)) (fun r344 σ345 => gd ((0 : Int) ≤ wr (v3 + 1) ∧ wr (v3 + 1) < (L : Int)) (gd ((0 : Int) ≤ wr (v3 + 2) ∧ wr (v3 + 2) < (L : Int)) (cl (fX7_rings σ345 (xs (wr (v3 + 1)).toNat) (xs (wr (v3 + 2)).toNat)) (fun r351 σ352 => if r344 = r351 then lL_law n σ352 xs L (wr (v3 + 6)) else some (0, σ352))))))) else if qand (xs v3.toNat) 63 = 23 then gd ((0 : Int) ≤ wr (v3 + 1) ∧ wr (v3 + 1) < (L : Int)) (gd ((0 : Int) ≤ wr (v3 + 2) ∧ wr (v3 + 2) < (L : Int)) (gd ((0 : Int) ≤ wr (v3 + 3) ∧ wr (v3 + 3) < (L : Int)) (gd ((0 : Int) ≤ wr (v3 + 4) ∧ wr (v3 + 4) < (L : Int)) (cl (fX6_gaps σ (xs (wr (v3 + 1)).toNat) (xs (wr (v3 + 2)).toNat) (xs (wr (v3 + 3)).toNat) (xs (wr (v3 + 4)).toNat)) (fun r362 σ363 => gd ((0 : Int) ≤ wr (v3 + 1) ∧ wr (v3 + 1) < (L : Int)) (gd ((0 : Int) ≤ wr (v3 + 2) ∧ wr (v3 + 2) < (L : Int)) (gd ((0 : Int) ≤ wr (v3 + 3) ∧ wr (v3 + 3) < (L : Int)) (gd ((0 : Int) ≤ wr (v3 + 4) ∧ wr (v3 + 4) < (L : Int)) (cl (fX7_gaps σ363 (xs (wr (v3 + 1)).toNat) (xs (wr (v3 + 2)).toNat) (xs (wr (v3 + 3)).toNat) (xs (wr (v3 + 4)).toNat)) (fun r371 σ372 => if r362 = r371 then lL_law n σ372 xs L (wr (v3 + 6)) else some (0, σ372))))))))))) else if qand (xs v3.toNat) 63 = 24 then gd ((0 : Int) ≤ wr (v3 + 1) ∧ wr (v3 + 1) < (L : Int)) (gd ((0 : Int) ≤ wr (v3 + 2) ∧ wr (v3 + 2) < (L : Int)) (gd ((0 : Int) ≤ wr (v3 + 3) ∧ wr (v3 + 3) < (L : Int)) (gd ((0 : Int) ≤ wr (v3 + 4) ∧ wr (v3 + 4) < (L : Int)) (gd ((0 : Int) ≤ wr (v3 + 5) ∧ wr (v3 + 5) < (L : Int)) (cl (fX6_which σ (xs (wr (v3 + 1)).toNat) (xs (wr (v3 + 2)).toNat) (xs (wr (v3 + 3)).toNat) (xs (wr (v3 + 4)).toNat) (xs (wr (v3 + 5)).toNat)) (fun r383 σ384 => gd ((0 : Int) ≤ wr (v3 + 1) ∧ wr (v3 + 1) < (L : Int)) (gd ((0 : Int) ≤ wr (v3 + 2) ∧ wr (v3 + 2) < (L : Int)) (gd ((0 : Int) ≤ wr (v3 + 3) ∧ wr (v3 + 3) < (L : Int)) (gd ((0 : Int) ≤ wr (v3 + 4) ∧ wr (v3 + 4) < (L : Int)) (gd ((0 : Int) ≤ wr (v3 + 5) ∧ wr (v3 + 5) < (L : Int)) (cl (fX7_which σ384 (xs (wr (v3 + 1)).toNat) (xs (wr (v3 + 2)).toNat) (xs (wr (v3 + 3)).toNat) (xs (wr (v3 + 4)).toNat) (xs (wr (v3 + 5)).toNat)) (fun r393 σ394 => if r383 = r393 then lL_law n σ394 xs L (wr (v3 + 6)) else some (0, σ394))))))))))))) else if qand (xs v3.toNat) 63 = 25 then gd ((0 : Int) ≤ wr (v3 + 1) ∧ wr (v3 + 1) < (L : Int)) (gd ((0 : Int) ≤ wr (v3 + 2) ∧ wr (v3 + 2) < (L : Int)) (gd ((0 : Int) ≤ wr (v3 + 3) ∧ wr (v3 + 3) < (L : Int)) (gd ((0 : Int) ≤ wr (v3 + 4) ∧ wr (v3 + 4) < (L : Int)) (cl (fX6_storm σ (xs (wr (v3 + 1)).toNat) (xs (wr (v3 + 2)).toNat) (xs (wr (v3 + 3)).toNat) (xs (wr (v3 + 4)).toNat)) (fun r404 σ405 => gd ((0 : Int) ≤ wr (v3 + 1) ∧ wr (v3 + 1) < (L : Int)) (gd ((0 : Int) ≤ wr (v3 + 2) ∧ wr (v3 + 2) < (L : Int)) (gd ((0 : Int) ≤ wr (v3 + 3) ∧ wr (v3 + 3) < (L : Int)) (gd ((0 : Int) ≤ wr (v3 + 4) ∧ wr (v3 + 4) < (L : Int)) (cl (fX7_storm σ405 (xs (wr (v3 + 1)).toNat) (xs (wr (v3 + 2)).toNat) (xs (wr (v3 + 3)).toNat) (xs (wr (v3 + 4)).toNat)) (fun r413 σ414 => if r404 = r413 then lL_law n σ414 xs L (wr (v3 + 6)) else some (0, σ414))))))))))) else if qand (xs v3.toNat) 63 = 26 then gd ((0 : Int) ≤ wr (v3 + 1) ∧ wr (v3 + 1) < (L : Int)) (cl (fX6_image σ (xs (wr (v3 + 1)).toNat)) (fun r421 σ422 => gd ((0 : Int) ≤ wr (v3 + 1) ∧ wr (v3 + 1) < (L : Int)) (cl (fX7_image σ422 (xs (wr (v3 + 1)).toNat)) (fun r427 σ428 => if r421 = r427 then lL_law n σ428 xs L (wr (v3 + 6)) else some (0, σ428))))) else if qand (xs v3.toNat) 63 = 27 then gd ((0 : Int) ≤ wr (v3 + 1) ∧ wr (v3 + 1) < (L : Int)) (cl (fX6_restore σ (xs (wr (v3 + 1)).toNat)) (fun r435 σ436 => gd ((0 : Int) ≤ wr (v3 + 1) ∧ wr (v3 + 1) < (L : Int)) (cl (fX7_restore σ436 (xs (wr (v3 + 1)).toNat)) (fun r441 σ442 => if r435 = r441 then lL_law n σ442 xs L (wr (v3 + 6)) else some (0, σ442))))) else if qand (xs v3.toNat) 63 = 28 then gd ((0 : Int) ≤ wr (v3 + 1) ∧ wr (v3 + 1) < (L : Int)) (cl (fX6_kind σ (xs (wr (v3 + 1)).toNat)) (fun r449 σ450 => gd ((0 : Int) ≤ wr (v3 + 1) ∧ wr (v3 + 1) < (L : Int)) (cl (fX7_kind σ450 (xs (wr (v3 + 1)).toNat)) (fun r455 σ456 => if r449 = r455 then lL_law n σ456 xs L (wr (v3 + 6)) else some (0, σ456))))) else if qand (xs v3.toNat) 63 = 29 then gd ((0 : Int) ≤ wr (v3 + 1) ∧ wr (v3 + 1) < (L : Int)) (gd ((0 : Int) ≤ wr (v3 + 2) ∧ wr (v3 + 2) < (L : Int)) (cl (fX6_as σ (xs (wr (v3 + 1)).toNat) (xs (wr (v3 + 2)).toNat)) (fun r464 σ465 => gd ((0 : Int) ≤ wr (v3 + 1) ∧ wr (v3 + 1) < (L : Int)) (gd ((0 : Int) ≤ wr (v3 + 2) ∧ wr (v3 + 2) < (L : Int)) (cl (fX7_as σ465 (xs (wr (v3 + 1)).toNat) (xs (wr (v3 + 2)).toNat)) (fun r471 σ472 => if r464 = r471 then lL_law n σ472 xs L (wr (v3 + 6)) else some (0, σ472))))))) else if qand (xs v3.toNat) 63 = 30 then gd ((0 : Int) ≤ wr (v3 + 1) ∧ wr (v3 + 1) < (L : Int)) (gd ((0 : Int) ≤ wr (v3 + 2) ∧ wr (v3 + 2) < (L : Int)) (cl (fX6_ask σ (xs (wr (v3 + 1)).toNat) (xs (wr (v3 + 2)).toNat)) (fun r480 σ481 => gd ((0 : Int) ≤ wr (v3 + 1) ∧ wr (v3 + 1) < (L : Int)) (gd ((0 : Int) ≤ wr (v3 + 2) ∧ wr (v3 + 2) < (L : Int)) (cl (fX7_ask σ481 (xs (wr (v3 + 1)).toNat) (xs (wr (v3 + 2)).toNat)) (fun r487 σ488 => if r480 = r487 then lL_law n σ488 xs L (wr (v3 + 6)) else some (0, σ488))))))) else if qand (xs v3.toNat) 63 = 31 then gd ((0 : Int) ≤ wr (v3 + 1) ∧ wr (v3 + 1) < (L : Int)) (cl (fX6_trace σ (xs (wr (v3 + 1)).toNat)) (fun r495 σ496 => gd ((0 : Int) ≤ wr (v3 + 1) ∧ wr (v3 + 1) < (L : Int)) (cl (fX7_trace σ496 (xs (wr (v3 + 1)).toNat)) (fun r501 σ502 => if r495 = r501 then lL_law n σ502 xs L (wr (v3 + 6)) else some (0, σ502))))) else if qand (xs v3.toNat) 63 = 32 then gd ((0 : Int) ≤ wr (v3 + 1) ∧ wr (v3 + 1) < (L : Int)) (cl (fX6_count σ (xs (wr (v3 + 1)).toNat)) (fun r509 σ510 => gd ((0 : Int) ≤ wr (v3 + 1) ∧ wr (v3 + 1) < (L : Int)) (cl (fX7_count σ510 (xs (wr (v3 + 1)).toNat)) (fun r515 σ516 => if r509 = r515 then lL_law n σ516 xs L (wr (v3 + 6)) else some (0, σ516))))) else if qand (xs v3.toNat) 63 = 33 then if fX6_status σ = fX7_status σ then lL_law n σ xs L (wr (v3 + 6)) else some (0, σ) else lL_law n σ xs L (wr (v3 + 6))) := rfl

set_option maxHeartbeats 4000000 in
set_option maxRecDepth 100000 in
theorem tlL_law {p : Program} {l : Launch} {e : Env} {s : State} {m : MethodId} {below : List Frame} {meth : Method} {c : Code} {G : GT} {b L cells slots : Nat} {ys : Nat → Int32} (hG : GI G) (hC : CX p s m #[Value.ref b] c cL_law 4 RL wsL_law G (fun q => s.heap.size ≤ q)) (hr : meth.sig.returnType = ret) (hlk : meth.locks = false) (hX : va_X b L ys s s.heap) (hbl : b < s.heap.size) {xs : Nat → Int} (hxs : ∀ k, xs k = (ys k).toInt) (hRx : ∀ k, Rg (xs k)) (hLR : Rg (L : Int)) (hce : cells ≤ room_1.cells ∧ slots ≤ room_1.slots) {σ0 : Hp} : ∀ (n : Nat) {σ : Hp} (hs : RgS σ) {v3 : Int} (h3 : Rg v3) (hf : lL_law n σ xs L v3 = some (1, σ0)), VV p l e room_1 s m #[Value.ref b] below meth c (lw_Z below #[Value.ref b] s) G (fun q => s.heap.size ≤ q) cells slots 4 σ 18 [(0, .ref b), (1, rf G 6 0), (2, rf G 7 0), (3, iv v3)] [] := by
  intro n
  induction n with
  | zero =>
    intro σ hs v3 h3 hf; exact absurd (show (none : Option (Int × Hp)) = some (1, σ0) from hf) (fun z => by cases z)
  | succ n ih =>
    intro σ hs v3 h3 hf

    replace hf := (lL_law_e0 n σ xs L v3).symm.trans hf
    refine V_iload_n (k := 3) (q := 19) hC 3 rfl dL_law_18 rfl ?_
    refine V_aload_n (k := 0) (q := 20) hC 0 rfl dL_law_19 rfl ?_
    refine V_slen (q := 21) hC hX hbl dL_law_20 rfl ?_
    refine V_bipush (q := 23) hC (by decide) dL_law_21 rfl ?_
    refine V_isub (q := 24) hC dL_law_23 rfl ?_
    refine V_icmp_gt (tgt := 1282) (q := 27) hC h3 (Rg_wr _) dL_law_24 (by decide) rfl (fun c1 => ?_) (fun c1 => ?_)
    · replace hf := (if_pos c1).symm.trans hf
      refine V_iconst (q := 1283) hC dL_law_1282 rfl ?_
      exact V_lret hC hr hlk hce dL_law_1283
    · replace hf := (if_neg c1).symm.trans hf
      refine V_aload_n (k := 0) (q := 28) hC 0 rfl dL_law_27 rfl ?_
      refine V_iload_n (k := 3) (q := 29) hC 3 rfl dL_law_28 rfl ?_
      obtain ⟨g2, hf⟩ := gd_some hf
      refine V_sld (q := 30) hC hX hbl hxs g2 h3 dL_law_29 rfl ?_
      refine V_bipush (q := 32) hC (by decide) dL_law_30 rfl ?_
      refine V_iand (q := 33) hC dL_law_32 rfl ?_
      by_cases c3 : qand (xs v3.toNat) 63 = 0
      · replace hf := (if_pos c3).symm.trans hf
        refine V_tabIn (tgt := 184) hC (Rg_qand _ _) dL_law_33 (by omega) (by omega) (by rw [c3]; rfl) (by decide) ?_
        refine V_aload_n (k := 1) (q := 185) hC 1 rfl dL_law_184 rfl ?_
        refine V_aload_n (k := 0) (q := 186) hC 0 rfl dL_law_185 rfl ?_
        refine V_iload_n (k := 3) (q := 187) hC 3 rfl dL_law_186 rfl ?_
        refine V_iconst (q := 188) hC dL_law_187 rfl ?_
        refine V_iadd (q := 189) hC dL_law_188 rfl ?_
        obtain ⟨g4, hf⟩ := gd_some hf
        refine V_sld (q := 190) hC hX hbl hxs g4 (Rg_wr _) dL_law_189 rfl ?_
        refine V_aload_n (k := 0) (q := 191) hC 0 rfl dL_law_190 rfl ?_
        refine V_iload_n (k := 3) (q := 192) hC 3 rfl dL_law_191 rfl ?_
        refine V_iconst (q := 193) hC dL_law_192 rfl ?_
        refine V_iadd (q := 194) hC dL_law_193 rfl ?_
        obtain ⟨g5, hf⟩ := gd_some hf
        refine V_sld (q := 195) hC hX hbl hxs g5 (Rg_wr _) dL_law_194 rfl ?_
        refine V_aload_n (k := 0) (q := 196) hC 0 rfl dL_law_195 rfl ?_
        refine V_iload_n (k := 3) (q := 197) hC 3 rfl dL_law_196 rfl ?_
        refine V_iconst (q := 198) hC dL_law_197 rfl ?_
        refine V_iadd (q := 199) hC dL_law_198 rfl ?_
        obtain ⟨g6, hf⟩ := gd_some hf
        refine V_sld (q := 200) hC hX hbl hxs g6 (Rg_wr _) dL_law_199 rfl ?_
        obtain ⟨r7, σ8, hc9, hf⟩ := cl_some hf
        refine V_cvi (st := []) (q := 203) (x0 := r7) (σ0 := σ8) hC (sX6_row l hG (hRx _) (hRx _) (hRx _) hs hc9) (cwV 3 hC.2.2.2.2.1 gL_law_X6_row rfl rfl rfl (by decide +kernel) ⟨Nat.le_of_ble_eq_true rfl, Nat.le_of_ble_eq_true rfl⟩) ⟨_, rfl, rfl⟩ iD6 (fun _ => ⟨_, rfl⟩) rfl rfl (Nat.le_of_ble_eq_true rfl) dL_law_200 rfl hce (fun hr10 hs11 => ?_)
        refine V_aload_n (k := 2) (q := 204) hC 2 rfl dL_law_203 rfl ?_
        refine V_aload_n (k := 0) (q := 205) hC 0 rfl dL_law_204 rfl ?_
        refine V_iload_n (k := 3) (q := 206) hC 3 rfl dL_law_205 rfl ?_
        refine V_iconst (q := 207) hC dL_law_206 rfl ?_
        refine V_iadd (q := 208) hC dL_law_207 rfl ?_
        obtain ⟨g12, hf⟩ := gd_some hf
        refine V_sld (q := 209) hC hX hbl hxs g12 (Rg_wr _) dL_law_208 rfl ?_
        refine V_aload_n (k := 0) (q := 210) hC 0 rfl dL_law_209 rfl ?_
        refine V_iload_n (k := 3) (q := 211) hC 3 rfl dL_law_210 rfl ?_
        refine V_iconst (q := 212) hC dL_law_211 rfl ?_
        refine V_iadd (q := 213) hC dL_law_212 rfl ?_
        obtain ⟨g13, hf⟩ := gd_some hf
        refine V_sld (q := 214) hC hX hbl hxs g13 (Rg_wr _) dL_law_213 rfl ?_
        refine V_aload_n (k := 0) (q := 215) hC 0 rfl dL_law_214 rfl ?_
        refine V_iload_n (k := 3) (q := 216) hC 3 rfl dL_law_215 rfl ?_
        refine V_iconst (q := 217) hC dL_law_216 rfl ?_
        refine V_iadd (q := 218) hC dL_law_217 rfl ?_
        obtain ⟨g14, hf⟩ := gd_some hf
        refine V_sld (q := 219) hC hX hbl hxs g14 (Rg_wr _) dL_law_218 rfl ?_
        obtain ⟨r15, σ16, hc17, hf⟩ := cl_some hf
        refine V_cvi (st := [iv r7]) (q := 222) (x0 := r15) (σ0 := σ16) hC (sX7_row l hG (hRx _) (hRx _) (hRx _) hs11 hc17) (cwV 3 hC.2.2.2.2.1 gL_law_X7_row rfl rfl rfl (by decide +kernel) ⟨Nat.le_of_ble_eq_true rfl, Nat.le_of_ble_eq_true rfl⟩) ⟨_, rfl, rfl⟩ iD7 (fun _ => ⟨_, rfl⟩) rfl rfl (Nat.le_of_ble_eq_true rfl) dL_law_219 rfl hce (fun hr18 hs19 => ?_)
        refine V_icmp_eq (tgt := 1276) (q := 225) hC hr10 hr18 dL_law_222 (by decide) rfl (fun c20 => ?_) (fun c20 => ?_)
        · replace hf := (if_pos c20).symm.trans hf
          refine V_iinc (i := 3) (lv' := [(0, .ref b), (1, rf G 6 0), (2, rf G 7 0), (3, iv (wr (v3 + 6)))]) (q := 1279) hC 3 rfl [1, 2, 3, 0] (by decide) rfl dL_law_1276 rfl ?_
          refine V_goto (tgt := 18) hC dL_law_1279 (by decide) ?_
          refine V_lsub [0, 1, 2, 3] rfl ?_
          exact ih hs19 (Rg_wr _) hf
        · replace hf := (if_neg c20).symm.trans hf
          refine V_iconst (q := 226) hC dL_law_225 rfl ?_
          exact (law_no hf).elim
      · replace hf := (if_neg c3).symm.trans hf
        by_cases c21 : qand (xs v3.toNat) 63 = 1
        · replace hf := (if_pos c21).symm.trans hf
          refine V_tabIn (tgt := 227) hC (Rg_qand _ _) dL_law_33 (by omega) (by omega) (by rw [c21]; rfl) (by decide) ?_
          refine V_aload_n (k := 1) (q := 228) hC 1 rfl dL_law_227 rfl ?_
          refine V_aload_n (k := 0) (q := 229) hC 0 rfl dL_law_228 rfl ?_
          refine V_iload_n (k := 3) (q := 230) hC 3 rfl dL_law_229 rfl ?_
          refine V_iconst (q := 231) hC dL_law_230 rfl ?_
          refine V_iadd (q := 232) hC dL_law_231 rfl ?_
          obtain ⟨g22, hf⟩ := gd_some hf
          refine V_sld (q := 233) hC hX hbl hxs g22 (Rg_wr _) dL_law_232 rfl ?_
          refine V_aload_n (k := 0) (q := 234) hC 0 rfl dL_law_233 rfl ?_
          refine V_iload_n (k := 3) (q := 235) hC 3 rfl dL_law_234 rfl ?_
          refine V_iconst (q := 236) hC dL_law_235 rfl ?_
          refine V_iadd (q := 237) hC dL_law_236 rfl ?_
          obtain ⟨g23, hf⟩ := gd_some hf
          refine V_sld (q := 238) hC hX hbl hxs g23 (Rg_wr _) dL_law_237 rfl ?_
          refine V_aload_n (k := 0) (q := 239) hC 0 rfl dL_law_238 rfl ?_
          refine V_iload_n (k := 3) (q := 240) hC 3 rfl dL_law_239 rfl ?_
          refine V_iconst (q := 241) hC dL_law_240 rfl ?_
          refine V_iadd (q := 242) hC dL_law_241 rfl ?_
          obtain ⟨g24, hf⟩ := gd_some hf
          refine V_sld (q := 243) hC hX hbl hxs g24 (Rg_wr _) dL_law_242 rfl ?_
          obtain ⟨r25, σ26, hc27, hf⟩ := cl_some hf
          refine V_cvi (st := []) (q := 246) (x0 := r25) (σ0 := σ26) hC (sX6_set l hG (hRx _) (hRx _) (hRx _) hs hc27) (cwV 3 hC.2.2.2.2.1 gL_law_X6_set rfl rfl rfl (by decide +kernel) ⟨Nat.le_of_ble_eq_true rfl, Nat.le_of_ble_eq_true rfl⟩) ⟨_, rfl, rfl⟩ iD6 (fun _ => ⟨_, rfl⟩) rfl rfl (Nat.le_of_ble_eq_true rfl) dL_law_243 rfl hce (fun hr28 hs29 => ?_)
          refine V_aload_n (k := 2) (q := 247) hC 2 rfl dL_law_246 rfl ?_
          refine V_aload_n (k := 0) (q := 248) hC 0 rfl dL_law_247 rfl ?_
          refine V_iload_n (k := 3) (q := 249) hC 3 rfl dL_law_248 rfl ?_
          refine V_iconst (q := 250) hC dL_law_249 rfl ?_
          refine V_iadd (q := 251) hC dL_law_250 rfl ?_
          obtain ⟨g30, hf⟩ := gd_some hf
          refine V_sld (q := 252) hC hX hbl hxs g30 (Rg_wr _) dL_law_251 rfl ?_
          refine V_aload_n (k := 0) (q := 253) hC 0 rfl dL_law_252 rfl ?_
          refine V_iload_n (k := 3) (q := 254) hC 3 rfl dL_law_253 rfl ?_
          refine V_iconst (q := 255) hC dL_law_254 rfl ?_
          refine V_iadd (q := 256) hC dL_law_255 rfl ?_
          obtain ⟨g31, hf⟩ := gd_some hf
          refine V_sld (q := 257) hC hX hbl hxs g31 (Rg_wr _) dL_law_256 rfl ?_
          refine V_aload_n (k := 0) (q := 258) hC 0 rfl dL_law_257 rfl ?_
          refine V_iload_n (k := 3) (q := 259) hC 3 rfl dL_law_258 rfl ?_
          refine V_iconst (q := 260) hC dL_law_259 rfl ?_
          refine V_iadd (q := 261) hC dL_law_260 rfl ?_
          obtain ⟨g32, hf⟩ := gd_some hf
          refine V_sld (q := 262) hC hX hbl hxs g32 (Rg_wr _) dL_law_261 rfl ?_
          obtain ⟨r33, σ34, hc35, hf⟩ := cl_some hf
          refine V_cvi (st := [iv r25]) (q := 265) (x0 := r33) (σ0 := σ34) hC (sX7_set l hG (hRx _) (hRx _) (hRx _) hs29 hc35) (cwV 3 hC.2.2.2.2.1 gL_law_X7_set rfl rfl rfl (by decide +kernel) ⟨Nat.le_of_ble_eq_true rfl, Nat.le_of_ble_eq_true rfl⟩) ⟨_, rfl, rfl⟩ iD7 (fun _ => ⟨_, rfl⟩) rfl rfl (Nat.le_of_ble_eq_true rfl) dL_law_262 rfl hce (fun hr36 hs37 => ?_)
          refine V_icmp_eq (tgt := 1276) (q := 268) hC hr28 hr36 dL_law_265 (by decide) rfl (fun c38 => ?_) (fun c38 => ?_)
          · replace hf := (if_pos c38).symm.trans hf
            refine V_iinc (i := 3) (lv' := [(0, .ref b), (1, rf G 6 0), (2, rf G 7 0), (3, iv (wr (v3 + 6)))]) (q := 1279) hC 3 rfl [1, 2, 3, 0] (by decide) rfl dL_law_1276 rfl ?_
            refine V_goto (tgt := 18) hC dL_law_1279 (by decide) ?_
            refine V_lsub [0, 1, 2, 3] rfl ?_
            exact ih hs37 (Rg_wr _) hf
          · replace hf := (if_neg c38).symm.trans hf
            refine V_iconst (q := 269) hC dL_law_268 rfl ?_
            exact (law_no hf).elim
        · replace hf := (if_neg c21).symm.trans hf
          by_cases c39 : qand (xs v3.toNat) 63 = 2
          · replace hf := (if_pos c39).symm.trans hf
            refine V_tabIn (tgt := 270) hC (Rg_qand _ _) dL_law_33 (by omega) (by omega) (by rw [c39]; rfl) (by decide) ?_
            refine V_aload_n (k := 1) (q := 271) hC 1 rfl dL_law_270 rfl ?_
            refine V_aload_n (k := 0) (q := 272) hC 0 rfl dL_law_271 rfl ?_
            refine V_iload_n (k := 3) (q := 273) hC 3 rfl dL_law_272 rfl ?_
            refine V_iconst (q := 274) hC dL_law_273 rfl ?_
            refine V_iadd (q := 275) hC dL_law_274 rfl ?_
            obtain ⟨g40, hf⟩ := gd_some hf
            refine V_sld (q := 276) hC hX hbl hxs g40 (Rg_wr _) dL_law_275 rfl ?_
            refine V_aload_n (k := 0) (q := 277) hC 0 rfl dL_law_276 rfl ?_
            refine V_iload_n (k := 3) (q := 278) hC 3 rfl dL_law_277 rfl ?_
            refine V_iconst (q := 279) hC dL_law_278 rfl ?_
            refine V_iadd (q := 280) hC dL_law_279 rfl ?_
            obtain ⟨g41, hf⟩ := gd_some hf
            refine V_sld (q := 281) hC hX hbl hxs g41 (Rg_wr _) dL_law_280 rfl ?_
            refine V_aload_n (k := 0) (q := 282) hC 0 rfl dL_law_281 rfl ?_
            refine V_iload_n (k := 3) (q := 283) hC 3 rfl dL_law_282 rfl ?_
            refine V_iconst (q := 284) hC dL_law_283 rfl ?_
            refine V_iadd (q := 285) hC dL_law_284 rfl ?_
            obtain ⟨g42, hf⟩ := gd_some hf
            refine V_sld (q := 286) hC hX hbl hxs g42 (Rg_wr _) dL_law_285 rfl ?_
            refine V_aload_n (k := 0) (q := 287) hC 0 rfl dL_law_286 rfl ?_
            refine V_iload_n (k := 3) (q := 288) hC 3 rfl dL_law_287 rfl ?_
            refine V_iconst (q := 289) hC dL_law_288 rfl ?_
            refine V_iadd (q := 290) hC dL_law_289 rfl ?_
            obtain ⟨g43, hf⟩ := gd_some hf
            refine V_sld (q := 291) hC hX hbl hxs g43 (Rg_wr _) dL_law_290 rfl ?_
            refine V_aload_n (k := 0) (q := 292) hC 0 rfl dL_law_291 rfl ?_
            refine V_iload_n (k := 3) (q := 293) hC 3 rfl dL_law_292 rfl ?_
            refine V_iconst (q := 294) hC dL_law_293 rfl ?_
            refine V_iadd (q := 295) hC dL_law_294 rfl ?_
            obtain ⟨g44, hf⟩ := gd_some hf
            refine V_sld (q := 296) hC hX hbl hxs g44 (Rg_wr _) dL_law_295 rfl ?_
            obtain ⟨r45, σ46, hc47, hf⟩ := cl_some hf
            refine V_cvi (st := []) (q := 299) (x0 := r45) (σ0 := σ46) hC (sX6_copy l hG (hRx _) (hRx _) (hRx _) (hRx _) (hRx _) hs hc47) (cwV 5 hC.2.2.2.2.1 gL_law_X6_copy rfl rfl rfl (by decide +kernel) ⟨Nat.le_of_ble_eq_true rfl, Nat.le_of_ble_eq_true rfl⟩) ⟨_, rfl, rfl⟩ iD6 (fun _ => ⟨_, rfl⟩) rfl rfl (Nat.le_of_ble_eq_true rfl) dL_law_296 rfl hce (fun hr48 hs49 => ?_)
            refine V_aload_n (k := 2) (q := 300) hC 2 rfl dL_law_299 rfl ?_
            refine V_aload_n (k := 0) (q := 301) hC 0 rfl dL_law_300 rfl ?_
            refine V_iload_n (k := 3) (q := 302) hC 3 rfl dL_law_301 rfl ?_
            refine V_iconst (q := 303) hC dL_law_302 rfl ?_
            refine V_iadd (q := 304) hC dL_law_303 rfl ?_
            obtain ⟨g50, hf⟩ := gd_some hf
            refine V_sld (q := 305) hC hX hbl hxs g50 (Rg_wr _) dL_law_304 rfl ?_
            refine V_aload_n (k := 0) (q := 306) hC 0 rfl dL_law_305 rfl ?_
            refine V_iload_n (k := 3) (q := 307) hC 3 rfl dL_law_306 rfl ?_
            refine V_iconst (q := 308) hC dL_law_307 rfl ?_
            refine V_iadd (q := 309) hC dL_law_308 rfl ?_
            obtain ⟨g51, hf⟩ := gd_some hf
            refine V_sld (q := 310) hC hX hbl hxs g51 (Rg_wr _) dL_law_309 rfl ?_
            refine V_aload_n (k := 0) (q := 311) hC 0 rfl dL_law_310 rfl ?_
            refine V_iload_n (k := 3) (q := 312) hC 3 rfl dL_law_311 rfl ?_
            refine V_iconst (q := 313) hC dL_law_312 rfl ?_
            refine V_iadd (q := 314) hC dL_law_313 rfl ?_
            obtain ⟨g52, hf⟩ := gd_some hf
            refine V_sld (q := 315) hC hX hbl hxs g52 (Rg_wr _) dL_law_314 rfl ?_
            refine V_aload_n (k := 0) (q := 316) hC 0 rfl dL_law_315 rfl ?_
            refine V_iload_n (k := 3) (q := 317) hC 3 rfl dL_law_316 rfl ?_
            refine V_iconst (q := 318) hC dL_law_317 rfl ?_
            refine V_iadd (q := 319) hC dL_law_318 rfl ?_
            obtain ⟨g53, hf⟩ := gd_some hf
            refine V_sld (q := 320) hC hX hbl hxs g53 (Rg_wr _) dL_law_319 rfl ?_
            refine V_aload_n (k := 0) (q := 321) hC 0 rfl dL_law_320 rfl ?_
            refine V_iload_n (k := 3) (q := 322) hC 3 rfl dL_law_321 rfl ?_
            refine V_iconst (q := 323) hC dL_law_322 rfl ?_
            refine V_iadd (q := 324) hC dL_law_323 rfl ?_
            obtain ⟨g54, hf⟩ := gd_some hf
            refine V_sld (q := 325) hC hX hbl hxs g54 (Rg_wr _) dL_law_324 rfl ?_
            obtain ⟨r55, σ56, hc57, hf⟩ := cl_some hf
            refine V_cvi (st := [iv r45]) (q := 328) (x0 := r55) (σ0 := σ56) hC (sX7_copy l hG (hRx _) (hRx _) (hRx _) (hRx _) (hRx _) hs49 hc57) (cwV 5 hC.2.2.2.2.1 gL_law_X7_copy rfl rfl rfl (by decide +kernel) ⟨Nat.le_of_ble_eq_true rfl, Nat.le_of_ble_eq_true rfl⟩) ⟨_, rfl, rfl⟩ iD7 (fun _ => ⟨_, rfl⟩) rfl rfl (Nat.le_of_ble_eq_true rfl) dL_law_325 rfl hce (fun hr58 hs59 => ?_)
            refine V_icmp_eq (tgt := 1276) (q := 331) hC hr48 hr58 dL_law_328 (by decide) rfl (fun c60 => ?_) (fun c60 => ?_)
            · replace hf := (if_pos c60).symm.trans hf
              refine V_iinc (i := 3) (lv' := [(0, .ref b), (1, rf G 6 0), (2, rf G 7 0), (3, iv (wr (v3 + 6)))]) (q := 1279) hC 3 rfl [1, 2, 3, 0] (by decide) rfl dL_law_1276 rfl ?_
              refine V_goto (tgt := 18) hC dL_law_1279 (by decide) ?_
              refine V_lsub [0, 1, 2, 3] rfl ?_
              exact ih hs59 (Rg_wr _) hf
            · replace hf := (if_neg c60).symm.trans hf
              refine V_iconst (q := 332) hC dL_law_331 rfl ?_
              exact (law_no hf).elim
          · replace hf := (if_neg c39).symm.trans hf
            by_cases c61 : qand (xs v3.toNat) 63 = 3
            · replace hf := (if_pos c61).symm.trans hf
              refine V_tabIn (tgt := 333) hC (Rg_qand _ _) dL_law_33 (by omega) (by omega) (by rw [c61]; rfl) (by decide) ?_
              refine V_aload_n (k := 1) (q := 334) hC 1 rfl dL_law_333 rfl ?_
              refine V_aload_n (k := 0) (q := 335) hC 0 rfl dL_law_334 rfl ?_
              refine V_iload_n (k := 3) (q := 336) hC 3 rfl dL_law_335 rfl ?_
              refine V_iconst (q := 337) hC dL_law_336 rfl ?_
              refine V_iadd (q := 338) hC dL_law_337 rfl ?_
              obtain ⟨g62, hf⟩ := gd_some hf
              refine V_sld (q := 339) hC hX hbl hxs g62 (Rg_wr _) dL_law_338 rfl ?_
              obtain ⟨r63, σ64, hc65, hf⟩ := cl_some hf
              refine V_cvi (st := []) (q := 342) (x0 := r63) (σ0 := σ64) hC (sX6_drop l hG (hRx _) hs hc65) (cwV 1 hC.2.2.2.2.1 gL_law_X6_drop rfl rfl rfl (by decide +kernel) ⟨Nat.le_of_ble_eq_true rfl, Nat.le_of_ble_eq_true rfl⟩) ⟨_, rfl, rfl⟩ iD6 (fun _ => ⟨_, rfl⟩) rfl rfl (Nat.le_of_ble_eq_true rfl) dL_law_339 rfl hce (fun hr66 hs67 => ?_)
              refine V_aload_n (k := 2) (q := 343) hC 2 rfl dL_law_342 rfl ?_
              refine V_aload_n (k := 0) (q := 344) hC 0 rfl dL_law_343 rfl ?_
              refine V_iload_n (k := 3) (q := 345) hC 3 rfl dL_law_344 rfl ?_
              refine V_iconst (q := 346) hC dL_law_345 rfl ?_
              refine V_iadd (q := 347) hC dL_law_346 rfl ?_
              obtain ⟨g68, hf⟩ := gd_some hf
              refine V_sld (q := 348) hC hX hbl hxs g68 (Rg_wr _) dL_law_347 rfl ?_
              obtain ⟨r69, σ70, hc71, hf⟩ := cl_some hf
              refine V_cvi (st := [iv r63]) (q := 351) (x0 := r69) (σ0 := σ70) hC (sX7_drop l hG (hRx _) hs67 hc71) (cwV 1 hC.2.2.2.2.1 gL_law_X7_drop rfl rfl rfl (by decide +kernel) ⟨Nat.le_of_ble_eq_true rfl, Nat.le_of_ble_eq_true rfl⟩) ⟨_, rfl, rfl⟩ iD7 (fun _ => ⟨_, rfl⟩) rfl rfl (Nat.le_of_ble_eq_true rfl) dL_law_348 rfl hce (fun hr72 hs73 => ?_)
              refine V_icmp_eq (tgt := 1276) (q := 354) hC hr66 hr72 dL_law_351 (by decide) rfl (fun c74 => ?_) (fun c74 => ?_)
              · replace hf := (if_pos c74).symm.trans hf
                refine V_iinc (i := 3) (lv' := [(0, .ref b), (1, rf G 6 0), (2, rf G 7 0), (3, iv (wr (v3 + 6)))]) (q := 1279) hC 3 rfl [1, 2, 3, 0] (by decide) rfl dL_law_1276 rfl ?_
                refine V_goto (tgt := 18) hC dL_law_1279 (by decide) ?_
                refine V_lsub [0, 1, 2, 3] rfl ?_
                exact ih hs73 (Rg_wr _) hf
              · replace hf := (if_neg c74).symm.trans hf
                refine V_iconst (q := 355) hC dL_law_354 rfl ?_
                exact (law_no hf).elim
            · replace hf := (if_neg c61).symm.trans hf
              by_cases c75 : qand (xs v3.toNat) 63 = 4
              · replace hf := (if_pos c75).symm.trans hf
                refine V_tabIn (tgt := 356) hC (Rg_qand _ _) dL_law_33 (by omega) (by omega) (by rw [c75]; rfl) (by decide) ?_
                refine V_aload_n (k := 1) (q := 357) hC 1 rfl dL_law_356 rfl ?_
                refine V_aload_n (k := 0) (q := 358) hC 0 rfl dL_law_357 rfl ?_
                refine V_iload_n (k := 3) (q := 359) hC 3 rfl dL_law_358 rfl ?_
                refine V_iconst (q := 360) hC dL_law_359 rfl ?_
                refine V_iadd (q := 361) hC dL_law_360 rfl ?_
                obtain ⟨g76, hf⟩ := gd_some hf
                refine V_sld (q := 362) hC hX hbl hxs g76 (Rg_wr _) dL_law_361 rfl ?_
                obtain ⟨r77, σ78, hc79, hf⟩ := cl_some hf
                refine V_cvi (st := []) (q := 365) (x0 := r77) (σ0 := σ78) hC (sX6_feed l hG (hRx _) hs hc79) (cwV 1 hC.2.2.2.2.1 gL_law_X6_feed rfl rfl rfl (by decide +kernel) ⟨Nat.le_of_ble_eq_true rfl, Nat.le_of_ble_eq_true rfl⟩) ⟨_, rfl, rfl⟩ iD6 (fun _ => ⟨_, rfl⟩) rfl rfl (Nat.le_of_ble_eq_true rfl) dL_law_362 rfl hce (fun hr80 hs81 => ?_)
                refine V_aload_n (k := 2) (q := 366) hC 2 rfl dL_law_365 rfl ?_
                refine V_aload_n (k := 0) (q := 367) hC 0 rfl dL_law_366 rfl ?_
                refine V_iload_n (k := 3) (q := 368) hC 3 rfl dL_law_367 rfl ?_
                refine V_iconst (q := 369) hC dL_law_368 rfl ?_
                refine V_iadd (q := 370) hC dL_law_369 rfl ?_
                obtain ⟨g82, hf⟩ := gd_some hf
                refine V_sld (q := 371) hC hX hbl hxs g82 (Rg_wr _) dL_law_370 rfl ?_
                obtain ⟨r83, σ84, hc85, hf⟩ := cl_some hf
                refine V_cvi (st := [iv r77]) (q := 374) (x0 := r83) (σ0 := σ84) hC (sX7_feed l hG (hRx _) hs81 hc85) (cwV 1 hC.2.2.2.2.1 gL_law_X7_feed rfl rfl rfl (by decide +kernel) ⟨Nat.le_of_ble_eq_true rfl, Nat.le_of_ble_eq_true rfl⟩) ⟨_, rfl, rfl⟩ iD7 (fun _ => ⟨_, rfl⟩) rfl rfl (Nat.le_of_ble_eq_true rfl) dL_law_371 rfl hce (fun hr86 hs87 => ?_)
                refine V_icmp_eq (tgt := 1276) (q := 377) hC hr80 hr86 dL_law_374 (by decide) rfl (fun c88 => ?_) (fun c88 => ?_)
                · replace hf := (if_pos c88).symm.trans hf
                  refine V_iinc (i := 3) (lv' := [(0, .ref b), (1, rf G 6 0), (2, rf G 7 0), (3, iv (wr (v3 + 6)))]) (q := 1279) hC 3 rfl [1, 2, 3, 0] (by decide) rfl dL_law_1276 rfl ?_
                  refine V_goto (tgt := 18) hC dL_law_1279 (by decide) ?_
                  refine V_lsub [0, 1, 2, 3] rfl ?_
                  exact ih hs87 (Rg_wr _) hf
                · replace hf := (if_neg c88).symm.trans hf
                  refine V_iconst (q := 378) hC dL_law_377 rfl ?_
                  exact (law_no hf).elim
              · replace hf := (if_neg c75).symm.trans hf
                by_cases c89 : qand (xs v3.toNat) 63 = 5
                · replace hf := (if_pos c89).symm.trans hf
                  refine V_tabIn (tgt := 379) hC (Rg_qand _ _) dL_law_33 (by omega) (by omega) (by rw [c89]; rfl) (by decide) ?_
                  refine V_aload_n (k := 1) (q := 380) hC 1 rfl dL_law_379 rfl ?_
                  obtain ⟨r90, σ91, hc92, hf⟩ := cl_some hf
                  refine V_cvi (st := []) (q := 383) (x0 := r90) (σ0 := σ91) hC (sX6_wood l hG  hs hc92) (cwV 0 hC.2.2.2.2.1 gL_law_X6_wood rfl rfl rfl (by decide +kernel) ⟨Nat.le_of_ble_eq_true rfl, Nat.le_of_ble_eq_true rfl⟩) ⟨_, rfl, rfl⟩ iD6 (fun _ => ⟨_, rfl⟩) rfl rfl (Nat.le_of_ble_eq_true rfl) dL_law_380 rfl hce (fun hr93 hs94 => ?_)
                  refine V_aload_n (k := 2) (q := 384) hC 2 rfl dL_law_383 rfl ?_
                  obtain ⟨r95, σ96, hc97, hf⟩ := cl_some hf
                  refine V_cvi (st := [iv r90]) (q := 387) (x0 := r95) (σ0 := σ96) hC (sX7_wood l hG  hs94 hc97) (cwV 0 hC.2.2.2.2.1 gL_law_X7_wood rfl rfl rfl (by decide +kernel) ⟨Nat.le_of_ble_eq_true rfl, Nat.le_of_ble_eq_true rfl⟩) ⟨_, rfl, rfl⟩ iD7 (fun _ => ⟨_, rfl⟩) rfl rfl (Nat.le_of_ble_eq_true rfl) dL_law_384 rfl hce (fun hr98 hs99 => ?_)
                  refine V_icmp_eq (tgt := 1276) (q := 390) hC hr93 hr98 dL_law_387 (by decide) rfl (fun c100 => ?_) (fun c100 => ?_)
                  · replace hf := (if_pos c100).symm.trans hf
                    refine V_iinc (i := 3) (lv' := [(0, .ref b), (1, rf G 6 0), (2, rf G 7 0), (3, iv (wr (v3 + 6)))]) (q := 1279) hC 3 rfl [1, 2, 3, 0] (by decide) rfl dL_law_1276 rfl ?_
                    refine V_goto (tgt := 18) hC dL_law_1279 (by decide) ?_
                    refine V_lsub [0, 1, 2, 3] rfl ?_
                    exact ih hs99 (Rg_wr _) hf
                  · replace hf := (if_neg c100).symm.trans hf
                    refine V_iconst (q := 391) hC dL_law_390 rfl ?_
                    exact (law_no hf).elim
                · replace hf := (if_neg c89).symm.trans hf
                  by_cases c101 : qand (xs v3.toNat) 63 = 6
                  · replace hf := (if_pos c101).symm.trans hf
                    refine V_tabIn (tgt := 392) hC (Rg_qand _ _) dL_law_33 (by omega) (by omega) (by rw [c101]; rfl) (by decide) ?_
                    refine V_aload_n (k := 1) (q := 393) hC 1 rfl dL_law_392 rfl ?_
                    refine V_cvi (st := []) (q := 396) hC (sX6_fault l hG  hs) (cwV 0 hC.2.2.2.2.1 gL_law_X6_fault rfl rfl rfl (by decide +kernel) ⟨Nat.le_of_ble_eq_true rfl, Nat.le_of_ble_eq_true rfl⟩) ⟨_, rfl, rfl⟩ iD6 (fun _ => ⟨_, rfl⟩) rfl rfl (Nat.le_of_ble_eq_true rfl) dL_law_393 rfl hce (fun hr102 _ => ?_)
                    refine V_aload_n (k := 2) (q := 397) hC 2 rfl dL_law_396 rfl ?_
                    refine V_cvi (st := [iv (fX6_fault σ)]) (q := 400) hC (sX7_fault l hG  hs) (cwV 0 hC.2.2.2.2.1 gL_law_X7_fault rfl rfl rfl (by decide +kernel) ⟨Nat.le_of_ble_eq_true rfl, Nat.le_of_ble_eq_true rfl⟩) ⟨_, rfl, rfl⟩ iD7 (fun _ => ⟨_, rfl⟩) rfl rfl (Nat.le_of_ble_eq_true rfl) dL_law_397 rfl hce (fun hr103 _ => ?_)
                    refine V_icmp_eq (tgt := 1276) (q := 403) hC hr102 hr103 dL_law_400 (by decide) rfl (fun c104 => ?_) (fun c104 => ?_)
                    · replace hf := (if_pos c104).symm.trans hf
                      refine V_iinc (i := 3) (lv' := [(0, .ref b), (1, rf G 6 0), (2, rf G 7 0), (3, iv (wr (v3 + 6)))]) (q := 1279) hC 3 rfl [1, 2, 3, 0] (by decide) rfl dL_law_1276 rfl ?_
                      refine V_goto (tgt := 18) hC dL_law_1279 (by decide) ?_
                      refine V_lsub [0, 1, 2, 3] rfl ?_
                      exact ih hs (Rg_wr _) hf
                    · replace hf := (if_neg c104).symm.trans hf
                      refine V_iconst (q := 404) hC dL_law_403 rfl ?_
                      exact (law_no hf).elim
                  · replace hf := (if_neg c101).symm.trans hf
                    by_cases c105 : qand (xs v3.toNat) 63 = 7
                    · replace hf := (if_pos c105).symm.trans hf
                      refine V_tabIn (tgt := 405) hC (Rg_qand _ _) dL_law_33 (by omega) (by omega) (by rw [c105]; rfl) (by decide) ?_
                      refine V_aload_n (k := 1) (q := 406) hC 1 rfl dL_law_405 rfl ?_
                      refine V_aload_n (k := 0) (q := 407) hC 0 rfl dL_law_406 rfl ?_
                      refine V_iload_n (k := 3) (q := 408) hC 3 rfl dL_law_407 rfl ?_
                      refine V_iconst (q := 409) hC dL_law_408 rfl ?_
                      refine V_iadd (q := 410) hC dL_law_409 rfl ?_
                      obtain ⟨g106, hf⟩ := gd_some hf
                      refine V_sld (q := 411) hC hX hbl hxs g106 (Rg_wr _) dL_law_410 rfl ?_
                      obtain ⟨r107, σ108, hc109, hf⟩ := cl_some hf
                      refine V_cvi (st := []) (q := 414) (x0 := r107) (σ0 := σ108) hC (sX6_years l hG (hRx _) hs hc109) (cwV 1 hC.2.2.2.2.1 gL_law_X6_years rfl rfl rfl (by decide +kernel) ⟨Nat.le_of_ble_eq_true rfl, Nat.le_of_ble_eq_true rfl⟩) ⟨_, rfl, rfl⟩ iD6 (fun _ => ⟨_, rfl⟩) rfl rfl (Nat.le_of_ble_eq_true rfl) dL_law_411 rfl hce (fun hr110 hs111 => ?_)
                      refine V_aload_n (k := 2) (q := 415) hC 2 rfl dL_law_414 rfl ?_
                      refine V_aload_n (k := 0) (q := 416) hC 0 rfl dL_law_415 rfl ?_
                      refine V_iload_n (k := 3) (q := 417) hC 3 rfl dL_law_416 rfl ?_
                      refine V_iconst (q := 418) hC dL_law_417 rfl ?_
                      refine V_iadd (q := 419) hC dL_law_418 rfl ?_
                      obtain ⟨g112, hf⟩ := gd_some hf
                      refine V_sld (q := 420) hC hX hbl hxs g112 (Rg_wr _) dL_law_419 rfl ?_
                      obtain ⟨r113, σ114, hc115, hf⟩ := cl_some hf
                      refine V_cvi (st := [iv r107]) (q := 423) (x0 := r113) (σ0 := σ114) hC (sX7_years l hG (hRx _) hs111 hc115) (cwV 1 hC.2.2.2.2.1 gL_law_X7_years rfl rfl rfl (by decide +kernel) ⟨Nat.le_of_ble_eq_true rfl, Nat.le_of_ble_eq_true rfl⟩) ⟨_, rfl, rfl⟩ iD7 (fun _ => ⟨_, rfl⟩) rfl rfl (Nat.le_of_ble_eq_true rfl) dL_law_420 rfl hce (fun hr116 hs117 => ?_)
                      refine V_icmp_eq (tgt := 1276) (q := 426) hC hr110 hr116 dL_law_423 (by decide) rfl (fun c118 => ?_) (fun c118 => ?_)
                      · replace hf := (if_pos c118).symm.trans hf
                        refine V_iinc (i := 3) (lv' := [(0, .ref b), (1, rf G 6 0), (2, rf G 7 0), (3, iv (wr (v3 + 6)))]) (q := 1279) hC 3 rfl [1, 2, 3, 0] (by decide) rfl dL_law_1276 rfl ?_
                        refine V_goto (tgt := 18) hC dL_law_1279 (by decide) ?_
                        refine V_lsub [0, 1, 2, 3] rfl ?_
                        exact ih hs117 (Rg_wr _) hf
                      · replace hf := (if_neg c118).symm.trans hf
                        refine V_iconst (q := 427) hC dL_law_426 rfl ?_
                        exact (law_no hf).elim
                    · replace hf := (if_neg c105).symm.trans hf
                      by_cases c119 : qand (xs v3.toNat) 63 = 8
                      · replace hf := (if_pos c119).symm.trans hf
                        refine V_tabIn (tgt := 428) hC (Rg_qand _ _) dL_law_33 (by omega) (by omega) (by rw [c119]; rfl) (by decide) ?_
                        refine V_aload_n (k := 1) (q := 429) hC 1 rfl dL_law_428 rfl ?_
                        refine V_aload_n (k := 0) (q := 430) hC 0 rfl dL_law_429 rfl ?_
                        refine V_iload_n (k := 3) (q := 431) hC 3 rfl dL_law_430 rfl ?_
                        refine V_iconst (q := 432) hC dL_law_431 rfl ?_
                        refine V_iadd (q := 433) hC dL_law_432 rfl ?_
                        obtain ⟨g120, hf⟩ := gd_some hf
                        refine V_sld (q := 434) hC hX hbl hxs g120 (Rg_wr _) dL_law_433 rfl ?_
                        refine V_aload_n (k := 0) (q := 435) hC 0 rfl dL_law_434 rfl ?_
                        refine V_iload_n (k := 3) (q := 436) hC 3 rfl dL_law_435 rfl ?_
                        refine V_iconst (q := 437) hC dL_law_436 rfl ?_
                        refine V_iadd (q := 438) hC dL_law_437 rfl ?_
                        obtain ⟨g121, hf⟩ := gd_some hf
                        refine V_sld (q := 439) hC hX hbl hxs g121 (Rg_wr _) dL_law_438 rfl ?_
                        refine V_aload_n (k := 0) (q := 440) hC 0 rfl dL_law_439 rfl ?_
                        refine V_iload_n (k := 3) (q := 441) hC 3 rfl dL_law_440 rfl ?_
                        refine V_iconst (q := 442) hC dL_law_441 rfl ?_
                        refine V_iadd (q := 443) hC dL_law_442 rfl ?_
                        obtain ⟨g122, hf⟩ := gd_some hf
                        refine V_sld (q := 444) hC hX hbl hxs g122 (Rg_wr _) dL_law_443 rfl ?_
                        refine V_aload_n (k := 0) (q := 445) hC 0 rfl dL_law_444 rfl ?_
                        refine V_iload_n (k := 3) (q := 446) hC 3 rfl dL_law_445 rfl ?_
                        refine V_iconst (q := 447) hC dL_law_446 rfl ?_
                        refine V_iadd (q := 448) hC dL_law_447 rfl ?_
                        obtain ⟨g123, hf⟩ := gd_some hf
                        refine V_sld (q := 449) hC hX hbl hxs g123 (Rg_wr _) dL_law_448 rfl ?_
                        obtain ⟨r124, σ125, hc126, hf⟩ := cl_some hf
                        refine V_cvi (st := []) (q := 452) (x0 := r124) (σ0 := σ125) hC (sX6_cut l hG (hRx _) (hRx _) (hRx _) (hRx _) hs hc126) (cwV 4 hC.2.2.2.2.1 gL_law_X6_cut rfl rfl rfl (by decide +kernel) ⟨Nat.le_of_ble_eq_true rfl, Nat.le_of_ble_eq_true rfl⟩) ⟨_, rfl, rfl⟩ iD6 (fun _ => ⟨_, rfl⟩) rfl rfl (Nat.le_of_ble_eq_true rfl) dL_law_449 rfl hce (fun hr127 hs128 => ?_)
                        refine V_aload_n (k := 2) (q := 453) hC 2 rfl dL_law_452 rfl ?_
                        refine V_aload_n (k := 0) (q := 454) hC 0 rfl dL_law_453 rfl ?_
                        refine V_iload_n (k := 3) (q := 455) hC 3 rfl dL_law_454 rfl ?_
                        refine V_iconst (q := 456) hC dL_law_455 rfl ?_
                        refine V_iadd (q := 457) hC dL_law_456 rfl ?_
                        obtain ⟨g129, hf⟩ := gd_some hf
                        refine V_sld (q := 458) hC hX hbl hxs g129 (Rg_wr _) dL_law_457 rfl ?_
                        refine V_aload_n (k := 0) (q := 459) hC 0 rfl dL_law_458 rfl ?_
                        refine V_iload_n (k := 3) (q := 460) hC 3 rfl dL_law_459 rfl ?_
                        refine V_iconst (q := 461) hC dL_law_460 rfl ?_
                        refine V_iadd (q := 462) hC dL_law_461 rfl ?_
                        obtain ⟨g130, hf⟩ := gd_some hf
                        refine V_sld (q := 463) hC hX hbl hxs g130 (Rg_wr _) dL_law_462 rfl ?_
                        refine V_aload_n (k := 0) (q := 464) hC 0 rfl dL_law_463 rfl ?_
                        refine V_iload_n (k := 3) (q := 465) hC 3 rfl dL_law_464 rfl ?_
                        refine V_iconst (q := 466) hC dL_law_465 rfl ?_
                        refine V_iadd (q := 467) hC dL_law_466 rfl ?_
                        obtain ⟨g131, hf⟩ := gd_some hf
                        refine V_sld (q := 468) hC hX hbl hxs g131 (Rg_wr _) dL_law_467 rfl ?_
                        refine V_aload_n (k := 0) (q := 469) hC 0 rfl dL_law_468 rfl ?_
                        refine V_iload_n (k := 3) (q := 470) hC 3 rfl dL_law_469 rfl ?_
                        refine V_iconst (q := 471) hC dL_law_470 rfl ?_
                        refine V_iadd (q := 472) hC dL_law_471 rfl ?_
                        obtain ⟨g132, hf⟩ := gd_some hf
                        refine V_sld (q := 473) hC hX hbl hxs g132 (Rg_wr _) dL_law_472 rfl ?_
                        obtain ⟨r133, σ134, hc135, hf⟩ := cl_some hf
                        refine V_cvi (st := [iv r124]) (q := 476) (x0 := r133) (σ0 := σ134) hC (sX7_cut_ l hG (hRx _) (hRx _) (hRx _) (hRx _) hs128 hc135) (cwV 4 hC.2.2.2.2.1 gL_law_X7_cut_ rfl rfl rfl (by decide +kernel) ⟨Nat.le_of_ble_eq_true rfl, Nat.le_of_ble_eq_true rfl⟩) ⟨_, rfl, rfl⟩ iD7 (fun _ => ⟨_, rfl⟩) rfl rfl (Nat.le_of_ble_eq_true rfl) dL_law_473 rfl hce (fun hr136 hs137 => ?_)
                        refine V_icmp_eq (tgt := 1276) (q := 479) hC hr127 hr136 dL_law_476 (by decide) rfl (fun c138 => ?_) (fun c138 => ?_)
                        · replace hf := (if_pos c138).symm.trans hf
                          refine V_iinc (i := 3) (lv' := [(0, .ref b), (1, rf G 6 0), (2, rf G 7 0), (3, iv (wr (v3 + 6)))]) (q := 1279) hC 3 rfl [1, 2, 3, 0] (by decide) rfl dL_law_1276 rfl ?_
                          refine V_goto (tgt := 18) hC dL_law_1279 (by decide) ?_
                          refine V_lsub [0, 1, 2, 3] rfl ?_
                          exact ih hs137 (Rg_wr _) hf
                        · replace hf := (if_neg c138).symm.trans hf
                          refine V_iconst (q := 480) hC dL_law_479 rfl ?_
                          exact (law_no hf).elim
                      · replace hf := (if_neg c119).symm.trans hf
                        by_cases c139 : qand (xs v3.toNat) 63 = 9
                        · replace hf := (if_pos c139).symm.trans hf
                          refine V_tabIn (tgt := 481) hC (Rg_qand _ _) dL_law_33 (by omega) (by omega) (by rw [c139]; rfl) (by decide) ?_
                          refine V_aload_n (k := 1) (q := 482) hC 1 rfl dL_law_481 rfl ?_
                          refine V_aload_n (k := 0) (q := 483) hC 0 rfl dL_law_482 rfl ?_
                          refine V_iload_n (k := 3) (q := 484) hC 3 rfl dL_law_483 rfl ?_
                          refine V_iconst (q := 485) hC dL_law_484 rfl ?_
                          refine V_iadd (q := 486) hC dL_law_485 rfl ?_
                          obtain ⟨g140, hf⟩ := gd_some hf
                          refine V_sld (q := 487) hC hX hbl hxs g140 (Rg_wr _) dL_law_486 rfl ?_
                          refine V_aload_n (k := 0) (q := 488) hC 0 rfl dL_law_487 rfl ?_
                          refine V_iload_n (k := 3) (q := 489) hC 3 rfl dL_law_488 rfl ?_
                          refine V_iconst (q := 490) hC dL_law_489 rfl ?_
                          refine V_iadd (q := 491) hC dL_law_490 rfl ?_
                          obtain ⟨g141, hf⟩ := gd_some hf
                          refine V_sld (q := 492) hC hX hbl hxs g141 (Rg_wr _) dL_law_491 rfl ?_
                          obtain ⟨r142, σ143, hc144, hf⟩ := cl_some hf
                          refine V_cvi (st := []) (q := 495) (x0 := r142) (σ0 := σ143) hC (sX6_anew l hG (hRx _) (hRx _) hs hc144) (cwV 2 hC.2.2.2.2.1 gL_law_X6_anew rfl rfl rfl (by decide +kernel) ⟨Nat.le_of_ble_eq_true rfl, Nat.le_of_ble_eq_true rfl⟩) ⟨_, rfl, rfl⟩ iD6 (fun _ => ⟨_, rfl⟩) rfl rfl (Nat.le_of_ble_eq_true rfl) dL_law_492 rfl hce (fun hr145 hs146 => ?_)
                          refine V_aload_n (k := 2) (q := 496) hC 2 rfl dL_law_495 rfl ?_
                          refine V_aload_n (k := 0) (q := 497) hC 0 rfl dL_law_496 rfl ?_
                          refine V_iload_n (k := 3) (q := 498) hC 3 rfl dL_law_497 rfl ?_
                          refine V_iconst (q := 499) hC dL_law_498 rfl ?_
                          refine V_iadd (q := 500) hC dL_law_499 rfl ?_
                          obtain ⟨g147, hf⟩ := gd_some hf
                          refine V_sld (q := 501) hC hX hbl hxs g147 (Rg_wr _) dL_law_500 rfl ?_
                          refine V_aload_n (k := 0) (q := 502) hC 0 rfl dL_law_501 rfl ?_
                          refine V_iload_n (k := 3) (q := 503) hC 3 rfl dL_law_502 rfl ?_
                          refine V_iconst (q := 504) hC dL_law_503 rfl ?_
                          refine V_iadd (q := 505) hC dL_law_504 rfl ?_
                          obtain ⟨g148, hf⟩ := gd_some hf
                          refine V_sld (q := 506) hC hX hbl hxs g148 (Rg_wr _) dL_law_505 rfl ?_
                          obtain ⟨r149, σ150, hc151, hf⟩ := cl_some hf
                          refine V_cvi (st := [iv r142]) (q := 509) (x0 := r149) (σ0 := σ150) hC (sX7_anew l hG (hRx _) (hRx _) hs146 hc151) (cwV 2 hC.2.2.2.2.1 gL_law_X7_anew rfl rfl rfl (by decide +kernel) ⟨Nat.le_of_ble_eq_true rfl, Nat.le_of_ble_eq_true rfl⟩) ⟨_, rfl, rfl⟩ iD7 (fun _ => ⟨_, rfl⟩) rfl rfl (Nat.le_of_ble_eq_true rfl) dL_law_506 rfl hce (fun hr152 hs153 => ?_)
                          refine V_icmp_eq (tgt := 1276) (q := 512) hC hr145 hr152 dL_law_509 (by decide) rfl (fun c154 => ?_) (fun c154 => ?_)
                          · replace hf := (if_pos c154).symm.trans hf
                            refine V_iinc (i := 3) (lv' := [(0, .ref b), (1, rf G 6 0), (2, rf G 7 0), (3, iv (wr (v3 + 6)))]) (q := 1279) hC 3 rfl [1, 2, 3, 0] (by decide) rfl dL_law_1276 rfl ?_
                            refine V_goto (tgt := 18) hC dL_law_1279 (by decide) ?_
                            refine V_lsub [0, 1, 2, 3] rfl ?_
                            exact ih hs153 (Rg_wr _) hf
                          · replace hf := (if_neg c154).symm.trans hf
                            refine V_iconst (q := 513) hC dL_law_512 rfl ?_
                            exact (law_no hf).elim
                        · replace hf := (if_neg c139).symm.trans hf
                          by_cases c155 : qand (xs v3.toNat) 63 = 10
                          · replace hf := (if_pos c155).symm.trans hf
                            refine V_tabIn (tgt := 514) hC (Rg_qand _ _) dL_law_33 (by omega) (by omega) (by rw [c155]; rfl) (by decide) ?_
                            refine V_aload_n (k := 1) (q := 515) hC 1 rfl dL_law_514 rfl ?_
                            refine V_aload_n (k := 0) (q := 516) hC 0 rfl dL_law_515 rfl ?_
                            refine V_iload_n (k := 3) (q := 517) hC 3 rfl dL_law_516 rfl ?_
                            refine V_iconst (q := 518) hC dL_law_517 rfl ?_
                            refine V_iadd (q := 519) hC dL_law_518 rfl ?_
                            obtain ⟨g156, hf⟩ := gd_some hf
                            refine V_sld (q := 520) hC hX hbl hxs g156 (Rg_wr _) dL_law_519 rfl ?_
                            obtain ⟨r157, σ158, hc159, hf⟩ := cl_some hf
                            refine V_cvi (st := []) (q := 523) (x0 := r157) (σ0 := σ158) hC (sX6_scrape l hG (hRx _) hs hc159) (cwV 1 hC.2.2.2.2.1 gL_law_X6_scrape rfl rfl rfl (by decide +kernel) ⟨Nat.le_of_ble_eq_true rfl, Nat.le_of_ble_eq_true rfl⟩) ⟨_, rfl, rfl⟩ iD6 (fun _ => ⟨_, rfl⟩) rfl rfl (Nat.le_of_ble_eq_true rfl) dL_law_520 rfl hce (fun hr160 hs161 => ?_)
                            refine V_aload_n (k := 2) (q := 524) hC 2 rfl dL_law_523 rfl ?_
                            refine V_aload_n (k := 0) (q := 525) hC 0 rfl dL_law_524 rfl ?_
                            refine V_iload_n (k := 3) (q := 526) hC 3 rfl dL_law_525 rfl ?_
                            refine V_iconst (q := 527) hC dL_law_526 rfl ?_
                            refine V_iadd (q := 528) hC dL_law_527 rfl ?_
                            obtain ⟨g162, hf⟩ := gd_some hf
                            refine V_sld (q := 529) hC hX hbl hxs g162 (Rg_wr _) dL_law_528 rfl ?_
                            obtain ⟨r163, σ164, hc165, hf⟩ := cl_some hf
                            refine V_cvi (st := [iv r157]) (q := 532) (x0 := r163) (σ0 := σ164) hC (sX7_scrape l hG (hRx _) hs161 hc165) (cwV 1 hC.2.2.2.2.1 gL_law_X7_scrape rfl rfl rfl (by decide +kernel) ⟨Nat.le_of_ble_eq_true rfl, Nat.le_of_ble_eq_true rfl⟩) ⟨_, rfl, rfl⟩ iD7 (fun _ => ⟨_, rfl⟩) rfl rfl (Nat.le_of_ble_eq_true rfl) dL_law_529 rfl hce (fun hr166 hs167 => ?_)
                            refine V_icmp_eq (tgt := 1276) (q := 535) hC hr160 hr166 dL_law_532 (by decide) rfl (fun c168 => ?_) (fun c168 => ?_)
                            · replace hf := (if_pos c168).symm.trans hf
                              refine V_iinc (i := 3) (lv' := [(0, .ref b), (1, rf G 6 0), (2, rf G 7 0), (3, iv (wr (v3 + 6)))]) (q := 1279) hC 3 rfl [1, 2, 3, 0] (by decide) rfl dL_law_1276 rfl ?_
                              refine V_goto (tgt := 18) hC dL_law_1279 (by decide) ?_
                              refine V_lsub [0, 1, 2, 3] rfl ?_
                              exact ih hs167 (Rg_wr _) hf
                            · replace hf := (if_neg c168).symm.trans hf
                              refine V_iconst (q := 536) hC dL_law_535 rfl ?_
                              exact (law_no hf).elim
                          · replace hf := (if_neg c155).symm.trans hf
                            by_cases c169 : qand (xs v3.toNat) 63 = 11
                            · replace hf := (if_pos c169).symm.trans hf
                              refine V_tabIn (tgt := 537) hC (Rg_qand _ _) dL_law_33 (by omega) (by omega) (by rw [c169]; rfl) (by decide) ?_
                              refine V_aload_n (k := 1) (q := 538) hC 1 rfl dL_law_537 rfl ?_
                              obtain ⟨r170, σ171, hc172, hf⟩ := cl_some hf
                              refine V_cvi (st := []) (q := 541) (x0 := r170) (σ0 := σ171) hC (sX6_undo l hG  hs hc172) (cwV 0 hC.2.2.2.2.1 gL_law_X6_undo rfl rfl rfl (by decide +kernel) ⟨Nat.le_of_ble_eq_true rfl, Nat.le_of_ble_eq_true rfl⟩) ⟨_, rfl, rfl⟩ iD6 (fun _ => ⟨_, rfl⟩) rfl rfl (Nat.le_of_ble_eq_true rfl) dL_law_538 rfl hce (fun hr173 hs174 => ?_)
                              refine V_aload_n (k := 2) (q := 542) hC 2 rfl dL_law_541 rfl ?_
                              obtain ⟨r175, σ176, hc177, hf⟩ := cl_some hf
                              refine V_cvi (st := [iv r170]) (q := 545) (x0 := r175) (σ0 := σ176) hC (sX7_undo l hG  hs174 hc177) (cwV 0 hC.2.2.2.2.1 gL_law_X7_undo rfl rfl rfl (by decide +kernel) ⟨Nat.le_of_ble_eq_true rfl, Nat.le_of_ble_eq_true rfl⟩) ⟨_, rfl, rfl⟩ iD7 (fun _ => ⟨_, rfl⟩) rfl rfl (Nat.le_of_ble_eq_true rfl) dL_law_542 rfl hce (fun hr178 hs179 => ?_)
                              refine V_icmp_eq (tgt := 1276) (q := 548) hC hr173 hr178 dL_law_545 (by decide) rfl (fun c180 => ?_) (fun c180 => ?_)
                              · replace hf := (if_pos c180).symm.trans hf
                                refine V_iinc (i := 3) (lv' := [(0, .ref b), (1, rf G 6 0), (2, rf G 7 0), (3, iv (wr (v3 + 6)))]) (q := 1279) hC 3 rfl [1, 2, 3, 0] (by decide) rfl dL_law_1276 rfl ?_
                                refine V_goto (tgt := 18) hC dL_law_1279 (by decide) ?_
                                refine V_lsub [0, 1, 2, 3] rfl ?_
                                exact ih hs179 (Rg_wr _) hf
                              · replace hf := (if_neg c180).symm.trans hf
                                refine V_iconst (q := 549) hC dL_law_548 rfl ?_
                                exact (law_no hf).elim
                            · replace hf := (if_neg c169).symm.trans hf
                              by_cases c181 : qand (xs v3.toNat) 63 = 12
                              · replace hf := (if_pos c181).symm.trans hf
                                refine V_tabIn (tgt := 550) hC (Rg_qand _ _) dL_law_33 (by omega) (by omega) (by rw [c181]; rfl) (by decide) ?_
                                refine V_aload_n (k := 1) (q := 551) hC 1 rfl dL_law_550 rfl ?_
                                refine V_aload_n (k := 0) (q := 552) hC 0 rfl dL_law_551 rfl ?_
                                refine V_iload_n (k := 3) (q := 553) hC 3 rfl dL_law_552 rfl ?_
                                refine V_iconst (q := 554) hC dL_law_553 rfl ?_
                                refine V_iadd (q := 555) hC dL_law_554 rfl ?_
                                obtain ⟨g182, hf⟩ := gd_some hf
                                refine V_sld (q := 556) hC hX hbl hxs g182 (Rg_wr _) dL_law_555 rfl ?_
                                refine V_aload_n (k := 0) (q := 557) hC 0 rfl dL_law_556 rfl ?_
                                refine V_iload_n (k := 3) (q := 558) hC 3 rfl dL_law_557 rfl ?_
                                refine V_iconst (q := 559) hC dL_law_558 rfl ?_
                                refine V_iadd (q := 560) hC dL_law_559 rfl ?_
                                obtain ⟨g183, hf⟩ := gd_some hf
                                refine V_sld (q := 561) hC hX hbl hxs g183 (Rg_wr _) dL_law_560 rfl ?_
                                obtain ⟨r184, σ185, hc186, hf⟩ := cl_some hf
                                refine V_cvi (st := []) (q := 564) (x0 := r184) (σ0 := σ185) hC (sX6_tree l hG (hRx _) (hRx _) hs hc186) (cwV 2 hC.2.2.2.2.1 gL_law_X6_tree rfl rfl rfl (by decide +kernel) ⟨Nat.le_of_ble_eq_true rfl, Nat.le_of_ble_eq_true rfl⟩) ⟨_, rfl, rfl⟩ iD6 (fun _ => ⟨_, rfl⟩) rfl rfl (Nat.le_of_ble_eq_true rfl) dL_law_561 rfl hce (fun hr187 hs188 => ?_)
                                refine V_aload_n (k := 2) (q := 565) hC 2 rfl dL_law_564 rfl ?_
                                refine V_aload_n (k := 0) (q := 566) hC 0 rfl dL_law_565 rfl ?_
                                refine V_iload_n (k := 3) (q := 567) hC 3 rfl dL_law_566 rfl ?_
                                refine V_iconst (q := 568) hC dL_law_567 rfl ?_
                                refine V_iadd (q := 569) hC dL_law_568 rfl ?_
                                obtain ⟨g189, hf⟩ := gd_some hf
                                refine V_sld (q := 570) hC hX hbl hxs g189 (Rg_wr _) dL_law_569 rfl ?_
                                refine V_aload_n (k := 0) (q := 571) hC 0 rfl dL_law_570 rfl ?_
                                refine V_iload_n (k := 3) (q := 572) hC 3 rfl dL_law_571 rfl ?_
                                refine V_iconst (q := 573) hC dL_law_572 rfl ?_
                                refine V_iadd (q := 574) hC dL_law_573 rfl ?_
                                obtain ⟨g190, hf⟩ := gd_some hf
                                refine V_sld (q := 575) hC hX hbl hxs g190 (Rg_wr _) dL_law_574 rfl ?_
                                obtain ⟨r191, σ192, hc193, hf⟩ := cl_some hf
                                refine V_cvi (st := [iv r184]) (q := 578) (x0 := r191) (σ0 := σ192) hC (sX7_tree l hG (hRx _) (hRx _) hs188 hc193) (cwV 2 hC.2.2.2.2.1 gL_law_X7_tree rfl rfl rfl (by decide +kernel) ⟨Nat.le_of_ble_eq_true rfl, Nat.le_of_ble_eq_true rfl⟩) ⟨_, rfl, rfl⟩ iD7 (fun _ => ⟨_, rfl⟩) rfl rfl (Nat.le_of_ble_eq_true rfl) dL_law_575 rfl hce (fun hr194 hs195 => ?_)
                                refine V_icmp_eq (tgt := 1276) (q := 581) hC hr187 hr194 dL_law_578 (by decide) rfl (fun c196 => ?_) (fun c196 => ?_)
                                · replace hf := (if_pos c196).symm.trans hf
                                  refine V_iinc (i := 3) (lv' := [(0, .ref b), (1, rf G 6 0), (2, rf G 7 0), (3, iv (wr (v3 + 6)))]) (q := 1279) hC 3 rfl [1, 2, 3, 0] (by decide) rfl dL_law_1276 rfl ?_
                                  refine V_goto (tgt := 18) hC dL_law_1279 (by decide) ?_
                                  refine V_lsub [0, 1, 2, 3] rfl ?_
                                  exact ih hs195 (Rg_wr _) hf
                                · replace hf := (if_neg c196).symm.trans hf
                                  refine V_iconst (q := 582) hC dL_law_581 rfl ?_
                                  exact (law_no hf).elim
                              · replace hf := (if_neg c181).symm.trans hf
                                by_cases c197 : qand (xs v3.toNat) 63 = 13
                                · replace hf := (if_pos c197).symm.trans hf
                                  refine V_tabIn (tgt := 583) hC (Rg_qand _ _) dL_law_33 (by omega) (by omega) (by rw [c197]; rfl) (by decide) ?_
                                  refine V_aload_n (k := 1) (q := 584) hC 1 rfl dL_law_583 rfl ?_
                                  refine V_aload_n (k := 0) (q := 585) hC 0 rfl dL_law_584 rfl ?_
                                  refine V_iload_n (k := 3) (q := 586) hC 3 rfl dL_law_585 rfl ?_
                                  refine V_iconst (q := 587) hC dL_law_586 rfl ?_
                                  refine V_iadd (q := 588) hC dL_law_587 rfl ?_
                                  obtain ⟨g198, hf⟩ := gd_some hf
                                  refine V_sld (q := 589) hC hX hbl hxs g198 (Rg_wr _) dL_law_588 rfl ?_
                                  refine V_aload_n (k := 0) (q := 590) hC 0 rfl dL_law_589 rfl ?_
                                  refine V_iload_n (k := 3) (q := 591) hC 3 rfl dL_law_590 rfl ?_
                                  refine V_iconst (q := 592) hC dL_law_591 rfl ?_
                                  refine V_iadd (q := 593) hC dL_law_592 rfl ?_
                                  obtain ⟨g199, hf⟩ := gd_some hf
                                  refine V_sld (q := 594) hC hX hbl hxs g199 (Rg_wr _) dL_law_593 rfl ?_
                                  obtain ⟨r200, σ201, hc202, hf⟩ := cl_some hf
                                  refine V_cvi (st := []) (q := 597) (x0 := r200) (σ0 := σ201) hC (sX6_cutHas l hG (hRx _) (hRx _) hs hc202) (cwV 2 hC.2.2.2.2.1 gL_law_X6_cutHas rfl rfl rfl (by decide +kernel) ⟨Nat.le_of_ble_eq_true rfl, Nat.le_of_ble_eq_true rfl⟩) ⟨_, rfl, rfl⟩ iD6 (fun _ => ⟨_, rfl⟩) rfl rfl (Nat.le_of_ble_eq_true rfl) dL_law_594 rfl hce (fun hr203 hs204 => ?_)
                                  refine V_aload_n (k := 2) (q := 598) hC 2 rfl dL_law_597 rfl ?_
                                  refine V_aload_n (k := 0) (q := 599) hC 0 rfl dL_law_598 rfl ?_
                                  refine V_iload_n (k := 3) (q := 600) hC 3 rfl dL_law_599 rfl ?_
                                  refine V_iconst (q := 601) hC dL_law_600 rfl ?_
                                  refine V_iadd (q := 602) hC dL_law_601 rfl ?_
                                  obtain ⟨g205, hf⟩ := gd_some hf
                                  refine V_sld (q := 603) hC hX hbl hxs g205 (Rg_wr _) dL_law_602 rfl ?_
                                  refine V_aload_n (k := 0) (q := 604) hC 0 rfl dL_law_603 rfl ?_
                                  refine V_iload_n (k := 3) (q := 605) hC 3 rfl dL_law_604 rfl ?_
                                  refine V_iconst (q := 606) hC dL_law_605 rfl ?_
                                  refine V_iadd (q := 607) hC dL_law_606 rfl ?_
                                  obtain ⟨g206, hf⟩ := gd_some hf
                                  refine V_sld (q := 608) hC hX hbl hxs g206 (Rg_wr _) dL_law_607 rfl ?_
                                  obtain ⟨r207, σ208, hc209, hf⟩ := cl_some hf
                                  refine V_cvi (st := [iv r200]) (q := 611) (x0 := r207) (σ0 := σ208) hC (sX7_cutHas l hG (hRx _) (hRx _) hs204 hc209) (cwV 2 hC.2.2.2.2.1 gL_law_X7_cutHas rfl rfl rfl (by decide +kernel) ⟨Nat.le_of_ble_eq_true rfl, Nat.le_of_ble_eq_true rfl⟩) ⟨_, rfl, rfl⟩ iD7 (fun _ => ⟨_, rfl⟩) rfl rfl (Nat.le_of_ble_eq_true rfl) dL_law_608 rfl hce (fun hr210 hs211 => ?_)
                                  refine V_icmp_eq (tgt := 1276) (q := 614) hC hr203 hr210 dL_law_611 (by decide) rfl (fun c212 => ?_) (fun c212 => ?_)
                                  · replace hf := (if_pos c212).symm.trans hf
                                    refine V_iinc (i := 3) (lv' := [(0, .ref b), (1, rf G 6 0), (2, rf G 7 0), (3, iv (wr (v3 + 6)))]) (q := 1279) hC 3 rfl [1, 2, 3, 0] (by decide) rfl dL_law_1276 rfl ?_
                                    refine V_goto (tgt := 18) hC dL_law_1279 (by decide) ?_
                                    refine V_lsub [0, 1, 2, 3] rfl ?_
                                    exact ih hs211 (Rg_wr _) hf
                                  · replace hf := (if_neg c212).symm.trans hf
                                    refine V_iconst (q := 615) hC dL_law_614 rfl ?_
                                    exact (law_no hf).elim
                                · replace hf := (if_neg c197).symm.trans hf
                                  by_cases c213 : qand (xs v3.toNat) 63 = 14
                                  · replace hf := (if_pos c213).symm.trans hf
                                    refine V_tabIn (tgt := 616) hC (Rg_qand _ _) dL_law_33 (by omega) (by omega) (by rw [c213]; rfl) (by decide) ?_
                                    refine V_aload_n (k := 1) (q := 617) hC 1 rfl dL_law_616 rfl ?_
                                    refine V_aload_n (k := 0) (q := 618) hC 0 rfl dL_law_617 rfl ?_
                                    refine V_iload_n (k := 3) (q := 619) hC 3 rfl dL_law_618 rfl ?_
                                    refine V_iconst (q := 620) hC dL_law_619 rfl ?_
                                    refine V_iadd (q := 621) hC dL_law_620 rfl ?_
                                    obtain ⟨g214, hf⟩ := gd_some hf
                                    refine V_sld (q := 622) hC hX hbl hxs g214 (Rg_wr _) dL_law_621 rfl ?_
                                    refine V_aload_n (k := 0) (q := 623) hC 0 rfl dL_law_622 rfl ?_
                                    refine V_iload_n (k := 3) (q := 624) hC 3 rfl dL_law_623 rfl ?_
                                    refine V_iconst (q := 625) hC dL_law_624 rfl ?_
                                    refine V_iadd (q := 626) hC dL_law_625 rfl ?_
                                    obtain ⟨g215, hf⟩ := gd_some hf
                                    refine V_sld (q := 627) hC hX hbl hxs g215 (Rg_wr _) dL_law_626 rfl ?_
                                    obtain ⟨r216, σ217, hc218, hf⟩ := cl_some hf
                                    refine V_cvi (st := []) (q := 630) (x0 := r216) (σ0 := σ217) hC (sX6_apart l hG (hRx _) (hRx _) hs hc218) (cwV 2 hC.2.2.2.2.1 gL_law_X6_apart rfl rfl rfl (by decide +kernel) ⟨Nat.le_of_ble_eq_true rfl, Nat.le_of_ble_eq_true rfl⟩) ⟨_, rfl, rfl⟩ iD6 (fun _ => ⟨_, rfl⟩) rfl rfl (Nat.le_of_ble_eq_true rfl) dL_law_627 rfl hce (fun hr219 hs220 => ?_)
                                    refine V_aload_n (k := 2) (q := 631) hC 2 rfl dL_law_630 rfl ?_
                                    refine V_aload_n (k := 0) (q := 632) hC 0 rfl dL_law_631 rfl ?_
                                    refine V_iload_n (k := 3) (q := 633) hC 3 rfl dL_law_632 rfl ?_
                                    refine V_iconst (q := 634) hC dL_law_633 rfl ?_
                                    refine V_iadd (q := 635) hC dL_law_634 rfl ?_
                                    obtain ⟨g221, hf⟩ := gd_some hf
                                    refine V_sld (q := 636) hC hX hbl hxs g221 (Rg_wr _) dL_law_635 rfl ?_
                                    refine V_aload_n (k := 0) (q := 637) hC 0 rfl dL_law_636 rfl ?_
                                    refine V_iload_n (k := 3) (q := 638) hC 3 rfl dL_law_637 rfl ?_
                                    refine V_iconst (q := 639) hC dL_law_638 rfl ?_
                                    refine V_iadd (q := 640) hC dL_law_639 rfl ?_
                                    obtain ⟨g222, hf⟩ := gd_some hf
                                    refine V_sld (q := 641) hC hX hbl hxs g222 (Rg_wr _) dL_law_640 rfl ?_
                                    obtain ⟨r223, σ224, hc225, hf⟩ := cl_some hf
                                    refine V_cvi (st := [iv r216]) (q := 644) (x0 := r223) (σ0 := σ224) hC (sX7_apart l hG (hRx _) (hRx _) hs220 hc225) (cwV 2 hC.2.2.2.2.1 gL_law_X7_apart rfl rfl rfl (by decide +kernel) ⟨Nat.le_of_ble_eq_true rfl, Nat.le_of_ble_eq_true rfl⟩) ⟨_, rfl, rfl⟩ iD7 (fun _ => ⟨_, rfl⟩) rfl rfl (Nat.le_of_ble_eq_true rfl) dL_law_641 rfl hce (fun hr226 hs227 => ?_)
                                    refine V_icmp_eq (tgt := 1276) (q := 647) hC hr219 hr226 dL_law_644 (by decide) rfl (fun c228 => ?_) (fun c228 => ?_)
                                    · replace hf := (if_pos c228).symm.trans hf
                                      refine V_iinc (i := 3) (lv' := [(0, .ref b), (1, rf G 6 0), (2, rf G 7 0), (3, iv (wr (v3 + 6)))]) (q := 1279) hC 3 rfl [1, 2, 3, 0] (by decide) rfl dL_law_1276 rfl ?_
                                      refine V_goto (tgt := 18) hC dL_law_1279 (by decide) ?_
                                      refine V_lsub [0, 1, 2, 3] rfl ?_
                                      exact ih hs227 (Rg_wr _) hf
                                    · replace hf := (if_neg c228).symm.trans hf
                                      refine V_iconst (q := 648) hC dL_law_647 rfl ?_
                                      exact (law_no hf).elim
                                  · replace hf := (if_neg c213).symm.trans hf
                                    by_cases c229 : qand (xs v3.toNat) 63 = 15
                                    · replace hf := (if_pos c229).symm.trans hf
                                      refine V_tabIn (tgt := 649) hC (Rg_qand _ _) dL_law_33 (by omega) (by omega) (by rw [c229]; rfl) (by decide) ?_
                                      refine V_aload_n (k := 1) (q := 650) hC 1 rfl dL_law_649 rfl ?_
                                      refine V_aload_n (k := 0) (q := 651) hC 0 rfl dL_law_650 rfl ?_
                                      refine V_iload_n (k := 3) (q := 652) hC 3 rfl dL_law_651 rfl ?_
                                      refine V_iconst (q := 653) hC dL_law_652 rfl ?_
                                      refine V_iadd (q := 654) hC dL_law_653 rfl ?_
                                      obtain ⟨g230, hf⟩ := gd_some hf
                                      refine V_sld (q := 655) hC hX hbl hxs g230 (Rg_wr _) dL_law_654 rfl ?_
                                      refine V_aload_n (k := 0) (q := 656) hC 0 rfl dL_law_655 rfl ?_
                                      refine V_iload_n (k := 3) (q := 657) hC 3 rfl dL_law_656 rfl ?_
                                      refine V_iconst (q := 658) hC dL_law_657 rfl ?_
                                      refine V_iadd (q := 659) hC dL_law_658 rfl ?_
                                      obtain ⟨g231, hf⟩ := gd_some hf
                                      refine V_sld (q := 660) hC hX hbl hxs g231 (Rg_wr _) dL_law_659 rfl ?_
                                      obtain ⟨r232, σ233, hc234, hf⟩ := cl_some hf
                                      refine V_cvi (st := []) (q := 663) (x0 := r232) (σ0 := σ233) hC (sX6_together l hG (hRx _) (hRx _) hs hc234) (cwV 2 hC.2.2.2.2.1 gL_law_X6_together rfl rfl rfl (by decide +kernel) ⟨Nat.le_of_ble_eq_true rfl, Nat.le_of_ble_eq_true rfl⟩) ⟨_, rfl, rfl⟩ iD6 (fun _ => ⟨_, rfl⟩) rfl rfl (Nat.le_of_ble_eq_true rfl) dL_law_660 rfl hce (fun hr235 hs236 => ?_)
                                      refine V_aload_n (k := 2) (q := 664) hC 2 rfl dL_law_663 rfl ?_
                                      refine V_aload_n (k := 0) (q := 665) hC 0 rfl dL_law_664 rfl ?_
                                      refine V_iload_n (k := 3) (q := 666) hC 3 rfl dL_law_665 rfl ?_
                                      refine V_iconst (q := 667) hC dL_law_666 rfl ?_
                                      refine V_iadd (q := 668) hC dL_law_667 rfl ?_
                                      obtain ⟨g237, hf⟩ := gd_some hf
                                      refine V_sld (q := 669) hC hX hbl hxs g237 (Rg_wr _) dL_law_668 rfl ?_
                                      refine V_aload_n (k := 0) (q := 670) hC 0 rfl dL_law_669 rfl ?_
                                      refine V_iload_n (k := 3) (q := 671) hC 3 rfl dL_law_670 rfl ?_
                                      refine V_iconst (q := 672) hC dL_law_671 rfl ?_
                                      refine V_iadd (q := 673) hC dL_law_672 rfl ?_
                                      obtain ⟨g238, hf⟩ := gd_some hf
                                      refine V_sld (q := 674) hC hX hbl hxs g238 (Rg_wr _) dL_law_673 rfl ?_
                                      obtain ⟨r239, σ240, hc241, hf⟩ := cl_some hf
                                      refine V_cvi (st := [iv r232]) (q := 677) (x0 := r239) (σ0 := σ240) hC (sX7_together l hG (hRx _) (hRx _) hs236 hc241) (cwV 2 hC.2.2.2.2.1 gL_law_X7_together rfl rfl rfl (by decide +kernel) ⟨Nat.le_of_ble_eq_true rfl, Nat.le_of_ble_eq_true rfl⟩) ⟨_, rfl, rfl⟩ iD7 (fun _ => ⟨_, rfl⟩) rfl rfl (Nat.le_of_ble_eq_true rfl) dL_law_674 rfl hce (fun hr242 hs243 => ?_)
                                      refine V_icmp_eq (tgt := 1276) (q := 680) hC hr235 hr242 dL_law_677 (by decide) rfl (fun c244 => ?_) (fun c244 => ?_)
                                      · replace hf := (if_pos c244).symm.trans hf
                                        refine V_iinc (i := 3) (lv' := [(0, .ref b), (1, rf G 6 0), (2, rf G 7 0), (3, iv (wr (v3 + 6)))]) (q := 1279) hC 3 rfl [1, 2, 3, 0] (by decide) rfl dL_law_1276 rfl ?_
                                        refine V_goto (tgt := 18) hC dL_law_1279 (by decide) ?_
                                        refine V_lsub [0, 1, 2, 3] rfl ?_
                                        exact ih hs243 (Rg_wr _) hf
                                      · replace hf := (if_neg c244).symm.trans hf
                                        refine V_iconst (q := 681) hC dL_law_680 rfl ?_
                                        exact (law_no hf).elim
                                    · replace hf := (if_neg c229).symm.trans hf
                                      by_cases c245 : qand (xs v3.toNat) 63 = 16
                                      · replace hf := (if_pos c245).symm.trans hf
                                        refine V_tabIn (tgt := 682) hC (Rg_qand _ _) dL_law_33 (by omega) (by omega) (by rw [c245]; rfl) (by decide) ?_
                                        refine V_aload_n (k := 1) (q := 683) hC 1 rfl dL_law_682 rfl ?_
                                        refine V_aload_n (k := 0) (q := 684) hC 0 rfl dL_law_683 rfl ?_
                                        refine V_iload_n (k := 3) (q := 685) hC 3 rfl dL_law_684 rfl ?_
                                        refine V_iconst (q := 686) hC dL_law_685 rfl ?_
                                        refine V_iadd (q := 687) hC dL_law_686 rfl ?_
                                        obtain ⟨g246, hf⟩ := gd_some hf
                                        refine V_sld (q := 688) hC hX hbl hxs g246 (Rg_wr _) dL_law_687 rfl ?_
                                        refine V_aload_n (k := 0) (q := 689) hC 0 rfl dL_law_688 rfl ?_
                                        refine V_iload_n (k := 3) (q := 690) hC 3 rfl dL_law_689 rfl ?_
                                        refine V_iconst (q := 691) hC dL_law_690 rfl ?_
                                        refine V_iadd (q := 692) hC dL_law_691 rfl ?_
                                        obtain ⟨g247, hf⟩ := gd_some hf
                                        refine V_sld (q := 693) hC hX hbl hxs g247 (Rg_wr _) dL_law_692 rfl ?_
                                        obtain ⟨r248, σ249, hc250, hf⟩ := cl_some hf
                                        refine V_cvi (st := []) (q := 696) (x0 := r248) (σ0 := σ249) hC (sX6_girth l hG (hRx _) (hRx _) hs hc250) (cwV 2 hC.2.2.2.2.1 gL_law_X6_girth rfl rfl rfl (by decide +kernel) ⟨Nat.le_of_ble_eq_true rfl, Nat.le_of_ble_eq_true rfl⟩) ⟨_, rfl, rfl⟩ iD6 (fun _ => ⟨_, rfl⟩) rfl rfl (Nat.le_of_ble_eq_true rfl) dL_law_693 rfl hce (fun hr251 hs252 => ?_)
                                        refine V_aload_n (k := 2) (q := 697) hC 2 rfl dL_law_696 rfl ?_
                                        refine V_aload_n (k := 0) (q := 698) hC 0 rfl dL_law_697 rfl ?_
                                        refine V_iload_n (k := 3) (q := 699) hC 3 rfl dL_law_698 rfl ?_
                                        refine V_iconst (q := 700) hC dL_law_699 rfl ?_
                                        refine V_iadd (q := 701) hC dL_law_700 rfl ?_
                                        obtain ⟨g253, hf⟩ := gd_some hf
                                        refine V_sld (q := 702) hC hX hbl hxs g253 (Rg_wr _) dL_law_701 rfl ?_
                                        refine V_aload_n (k := 0) (q := 703) hC 0 rfl dL_law_702 rfl ?_
                                        refine V_iload_n (k := 3) (q := 704) hC 3 rfl dL_law_703 rfl ?_
                                        refine V_iconst (q := 705) hC dL_law_704 rfl ?_
                                        refine V_iadd (q := 706) hC dL_law_705 rfl ?_
                                        obtain ⟨g254, hf⟩ := gd_some hf
                                        refine V_sld (q := 707) hC hX hbl hxs g254 (Rg_wr _) dL_law_706 rfl ?_
                                        obtain ⟨r255, σ256, hc257, hf⟩ := cl_some hf
                                        refine V_cvi (st := [iv r248]) (q := 710) (x0 := r255) (σ0 := σ256) hC (sX7_girth l hG (hRx _) (hRx _) hs252 hc257) (cwV 2 hC.2.2.2.2.1 gL_law_X7_girth rfl rfl rfl (by decide +kernel) ⟨Nat.le_of_ble_eq_true rfl, Nat.le_of_ble_eq_true rfl⟩) ⟨_, rfl, rfl⟩ iD7 (fun _ => ⟨_, rfl⟩) rfl rfl (Nat.le_of_ble_eq_true rfl) dL_law_707 rfl hce (fun hr258 hs259 => ?_)
                                        refine V_icmp_eq (tgt := 1276) (q := 713) hC hr251 hr258 dL_law_710 (by decide) rfl (fun c260 => ?_) (fun c260 => ?_)
                                        · replace hf := (if_pos c260).symm.trans hf
                                          refine V_iinc (i := 3) (lv' := [(0, .ref b), (1, rf G 6 0), (2, rf G 7 0), (3, iv (wr (v3 + 6)))]) (q := 1279) hC 3 rfl [1, 2, 3, 0] (by decide) rfl dL_law_1276 rfl ?_
                                          refine V_goto (tgt := 18) hC dL_law_1279 (by decide) ?_
                                          refine V_lsub [0, 1, 2, 3] rfl ?_
                                          exact ih hs259 (Rg_wr _) hf
                                        · replace hf := (if_neg c260).symm.trans hf
                                          refine V_iconst (q := 714) hC dL_law_713 rfl ?_
                                          exact (law_no hf).elim
                                      · replace hf := (if_neg c245).symm.trans hf
                                        by_cases c261 : qand (xs v3.toNat) 63 = 17
                                        · replace hf := (if_pos c261).symm.trans hf
                                          refine V_tabIn (tgt := 715) hC (Rg_qand _ _) dL_law_33 (by omega) (by omega) (by rw [c261]; rfl) (by decide) ?_
                                          refine V_aload_n (k := 1) (q := 716) hC 1 rfl dL_law_715 rfl ?_
                                          refine V_aload_n (k := 0) (q := 717) hC 0 rfl dL_law_716 rfl ?_
                                          refine V_iload_n (k := 3) (q := 718) hC 3 rfl dL_law_717 rfl ?_
                                          refine V_iconst (q := 719) hC dL_law_718 rfl ?_
                                          refine V_iadd (q := 720) hC dL_law_719 rfl ?_
                                          obtain ⟨g262, hf⟩ := gd_some hf
                                          refine V_sld (q := 721) hC hX hbl hxs g262 (Rg_wr _) dL_law_720 rfl ?_
                                          obtain ⟨r263, σ264, hc265, hf⟩ := cl_some hf
                                          refine V_cvi (st := []) (q := 724) (x0 := r263) (σ0 := σ264) hC (sX6_left l hG (hRx _) hs hc265) (cwV 1 hC.2.2.2.2.1 gL_law_X6_left rfl rfl rfl (by decide +kernel) ⟨Nat.le_of_ble_eq_true rfl, Nat.le_of_ble_eq_true rfl⟩) ⟨_, rfl, rfl⟩ iD6 (fun _ => ⟨_, rfl⟩) rfl rfl (Nat.le_of_ble_eq_true rfl) dL_law_721 rfl hce (fun hr266 hs267 => ?_)
                                          refine V_aload_n (k := 2) (q := 725) hC 2 rfl dL_law_724 rfl ?_
                                          refine V_aload_n (k := 0) (q := 726) hC 0 rfl dL_law_725 rfl ?_
                                          refine V_iload_n (k := 3) (q := 727) hC 3 rfl dL_law_726 rfl ?_
                                          refine V_iconst (q := 728) hC dL_law_727 rfl ?_
                                          refine V_iadd (q := 729) hC dL_law_728 rfl ?_
                                          obtain ⟨g268, hf⟩ := gd_some hf
                                          refine V_sld (q := 730) hC hX hbl hxs g268 (Rg_wr _) dL_law_729 rfl ?_
                                          obtain ⟨r269, σ270, hc271, hf⟩ := cl_some hf
                                          refine V_cvi (st := [iv r263]) (q := 733) (x0 := r269) (σ0 := σ270) hC (sX7_left l hG (hRx _) hs267 hc271) (cwV 1 hC.2.2.2.2.1 gL_law_X7_left rfl rfl rfl (by decide +kernel) ⟨Nat.le_of_ble_eq_true rfl, Nat.le_of_ble_eq_true rfl⟩) ⟨_, rfl, rfl⟩ iD7 (fun _ => ⟨_, rfl⟩) rfl rfl (Nat.le_of_ble_eq_true rfl) dL_law_730 rfl hce (fun hr272 hs273 => ?_)
                                          refine V_icmp_eq (tgt := 1276) (q := 736) hC hr266 hr272 dL_law_733 (by decide) rfl (fun c274 => ?_) (fun c274 => ?_)
                                          · replace hf := (if_pos c274).symm.trans hf
                                            refine V_iinc (i := 3) (lv' := [(0, .ref b), (1, rf G 6 0), (2, rf G 7 0), (3, iv (wr (v3 + 6)))]) (q := 1279) hC 3 rfl [1, 2, 3, 0] (by decide) rfl dL_law_1276 rfl ?_
                                            refine V_goto (tgt := 18) hC dL_law_1279 (by decide) ?_
                                            refine V_lsub [0, 1, 2, 3] rfl ?_
                                            exact ih hs273 (Rg_wr _) hf
                                          · replace hf := (if_neg c274).symm.trans hf
                                            refine V_iconst (q := 737) hC dL_law_736 rfl ?_
                                            exact (law_no hf).elim
                                        · replace hf := (if_neg c261).symm.trans hf
                                          by_cases c275 : qand (xs v3.toNat) 63 = 18
                                          · replace hf := (if_pos c275).symm.trans hf
                                            refine V_tabIn (tgt := 738) hC (Rg_qand _ _) dL_law_33 (by omega) (by omega) (by rw [c275]; rfl) (by decide) ?_
                                            refine V_aload_n (k := 1) (q := 739) hC 1 rfl dL_law_738 rfl ?_
                                            refine V_aload_n (k := 0) (q := 740) hC 0 rfl dL_law_739 rfl ?_
                                            refine V_iload_n (k := 3) (q := 741) hC 3 rfl dL_law_740 rfl ?_
                                            refine V_iconst (q := 742) hC dL_law_741 rfl ?_
                                            refine V_iadd (q := 743) hC dL_law_742 rfl ?_
                                            obtain ⟨g276, hf⟩ := gd_some hf
                                            refine V_sld (q := 744) hC hX hbl hxs g276 (Rg_wr _) dL_law_743 rfl ?_
                                            refine V_aload_n (k := 0) (q := 745) hC 0 rfl dL_law_744 rfl ?_
                                            refine V_iload_n (k := 3) (q := 746) hC 3 rfl dL_law_745 rfl ?_
                                            refine V_iconst (q := 747) hC dL_law_746 rfl ?_
                                            refine V_iadd (q := 748) hC dL_law_747 rfl ?_
                                            obtain ⟨g277, hf⟩ := gd_some hf
                                            refine V_sld (q := 749) hC hX hbl hxs g277 (Rg_wr _) dL_law_748 rfl ?_
                                            obtain ⟨r278, σ279, hc280, hf⟩ := cl_some hf
                                            refine V_cvi (st := []) (q := 752) (x0 := r278) (σ0 := σ279) hC (sX6_free l hG (hRx _) (hRx _) hs hc280) (cwV 2 hC.2.2.2.2.1 gL_law_X6_free rfl rfl rfl (by decide +kernel) ⟨Nat.le_of_ble_eq_true rfl, Nat.le_of_ble_eq_true rfl⟩) ⟨_, rfl, rfl⟩ iD6 (fun _ => ⟨_, rfl⟩) rfl rfl (Nat.le_of_ble_eq_true rfl) dL_law_749 rfl hce (fun hr281 hs282 => ?_)
                                            refine V_aload_n (k := 2) (q := 753) hC 2 rfl dL_law_752 rfl ?_
                                            refine V_aload_n (k := 0) (q := 754) hC 0 rfl dL_law_753 rfl ?_
                                            refine V_iload_n (k := 3) (q := 755) hC 3 rfl dL_law_754 rfl ?_
                                            refine V_iconst (q := 756) hC dL_law_755 rfl ?_
                                            refine V_iadd (q := 757) hC dL_law_756 rfl ?_
                                            obtain ⟨g283, hf⟩ := gd_some hf
                                            refine V_sld (q := 758) hC hX hbl hxs g283 (Rg_wr _) dL_law_757 rfl ?_
                                            refine V_aload_n (k := 0) (q := 759) hC 0 rfl dL_law_758 rfl ?_
                                            refine V_iload_n (k := 3) (q := 760) hC 3 rfl dL_law_759 rfl ?_
                                            refine V_iconst (q := 761) hC dL_law_760 rfl ?_
                                            refine V_iadd (q := 762) hC dL_law_761 rfl ?_
                                            obtain ⟨g284, hf⟩ := gd_some hf
                                            refine V_sld (q := 763) hC hX hbl hxs g284 (Rg_wr _) dL_law_762 rfl ?_
                                            obtain ⟨r285, σ286, hc287, hf⟩ := cl_some hf
                                            refine V_cvi (st := [iv r278]) (q := 766) (x0 := r285) (σ0 := σ286) hC (sX7_free l hG (hRx _) (hRx _) hs282 hc287) (cwV 2 hC.2.2.2.2.1 gL_law_X7_free rfl rfl rfl (by decide +kernel) ⟨Nat.le_of_ble_eq_true rfl, Nat.le_of_ble_eq_true rfl⟩) ⟨_, rfl, rfl⟩ iD7 (fun _ => ⟨_, rfl⟩) rfl rfl (Nat.le_of_ble_eq_true rfl) dL_law_763 rfl hce (fun hr288 hs289 => ?_)
                                            refine V_icmp_eq (tgt := 1276) (q := 769) hC hr281 hr288 dL_law_766 (by decide) rfl (fun c290 => ?_) (fun c290 => ?_)
                                            · replace hf := (if_pos c290).symm.trans hf
                                              refine V_iinc (i := 3) (lv' := [(0, .ref b), (1, rf G 6 0), (2, rf G 7 0), (3, iv (wr (v3 + 6)))]) (q := 1279) hC 3 rfl [1, 2, 3, 0] (by decide) rfl dL_law_1276 rfl ?_
                                              refine V_goto (tgt := 18) hC dL_law_1279 (by decide) ?_
                                              refine V_lsub [0, 1, 2, 3] rfl ?_
                                              exact ih hs289 (Rg_wr _) hf
                                            · replace hf := (if_neg c290).symm.trans hf
                                              refine V_iconst (q := 770) hC dL_law_769 rfl ?_
                                              exact (law_no hf).elim
                                          · replace hf := (if_neg c275).symm.trans hf
                                            by_cases c291 : qand (xs v3.toNat) 63 = 19
                                            · replace hf := (if_pos c291).symm.trans hf
                                              refine V_tabIn (tgt := 771) hC (Rg_qand _ _) dL_law_33 (by omega) (by omega) (by rw [c291]; rfl) (by decide) ?_
                                              refine V_aload_n (k := 1) (q := 772) hC 1 rfl dL_law_771 rfl ?_
                                              refine V_aload_n (k := 0) (q := 773) hC 0 rfl dL_law_772 rfl ?_
                                              refine V_iload_n (k := 3) (q := 774) hC 3 rfl dL_law_773 rfl ?_
                                              refine V_iconst (q := 775) hC dL_law_774 rfl ?_
                                              refine V_iadd (q := 776) hC dL_law_775 rfl ?_
                                              obtain ⟨g292, hf⟩ := gd_some hf
                                              refine V_sld (q := 777) hC hX hbl hxs g292 (Rg_wr _) dL_law_776 rfl ?_
                                              refine V_aload_n (k := 0) (q := 778) hC 0 rfl dL_law_777 rfl ?_
                                              refine V_iload_n (k := 3) (q := 779) hC 3 rfl dL_law_778 rfl ?_
                                              refine V_iconst (q := 780) hC dL_law_779 rfl ?_
                                              refine V_iadd (q := 781) hC dL_law_780 rfl ?_
                                              obtain ⟨g293, hf⟩ := gd_some hf
                                              refine V_sld (q := 782) hC hX hbl hxs g293 (Rg_wr _) dL_law_781 rfl ?_
                                              refine V_aload_n (k := 0) (q := 783) hC 0 rfl dL_law_782 rfl ?_
                                              refine V_iload_n (k := 3) (q := 784) hC 3 rfl dL_law_783 rfl ?_
                                              refine V_iconst (q := 785) hC dL_law_784 rfl ?_
                                              refine V_iadd (q := 786) hC dL_law_785 rfl ?_
                                              obtain ⟨g294, hf⟩ := gd_some hf
                                              refine V_sld (q := 787) hC hX hbl hxs g294 (Rg_wr _) dL_law_786 rfl ?_
                                              obtain ⟨r295, σ296, hc297, hf⟩ := cl_some hf
                                              refine V_cvi (st := []) (q := 790) (x0 := r295) (σ0 := σ296) hC (sX6_holds l hG (hRx _) (hRx _) (hRx _) hs hc297) (cwV 3 hC.2.2.2.2.1 gL_law_X6_holds rfl rfl rfl (by decide +kernel) ⟨Nat.le_of_ble_eq_true rfl, Nat.le_of_ble_eq_true rfl⟩) ⟨_, rfl, rfl⟩ iD6 (fun _ => ⟨_, rfl⟩) rfl rfl (Nat.le_of_ble_eq_true rfl) dL_law_787 rfl hce (fun hr298 hs299 => ?_)
                                              refine V_aload_n (k := 2) (q := 791) hC 2 rfl dL_law_790 rfl ?_
                                              refine V_aload_n (k := 0) (q := 792) hC 0 rfl dL_law_791 rfl ?_
                                              refine V_iload_n (k := 3) (q := 793) hC 3 rfl dL_law_792 rfl ?_
                                              refine V_iconst (q := 794) hC dL_law_793 rfl ?_
                                              refine V_iadd (q := 795) hC dL_law_794 rfl ?_
                                              obtain ⟨g300, hf⟩ := gd_some hf
                                              refine V_sld (q := 796) hC hX hbl hxs g300 (Rg_wr _) dL_law_795 rfl ?_
                                              refine V_aload_n (k := 0) (q := 797) hC 0 rfl dL_law_796 rfl ?_
                                              refine V_iload_n (k := 3) (q := 798) hC 3 rfl dL_law_797 rfl ?_
                                              refine V_iconst (q := 799) hC dL_law_798 rfl ?_
                                              refine V_iadd (q := 800) hC dL_law_799 rfl ?_
                                              obtain ⟨g301, hf⟩ := gd_some hf
                                              refine V_sld (q := 801) hC hX hbl hxs g301 (Rg_wr _) dL_law_800 rfl ?_
                                              refine V_aload_n (k := 0) (q := 802) hC 0 rfl dL_law_801 rfl ?_
                                              refine V_iload_n (k := 3) (q := 803) hC 3 rfl dL_law_802 rfl ?_
                                              refine V_iconst (q := 804) hC dL_law_803 rfl ?_
                                              refine V_iadd (q := 805) hC dL_law_804 rfl ?_
                                              obtain ⟨g302, hf⟩ := gd_some hf
                                              refine V_sld (q := 806) hC hX hbl hxs g302 (Rg_wr _) dL_law_805 rfl ?_
                                              obtain ⟨r303, σ304, hc305, hf⟩ := cl_some hf
                                              refine V_cvi (st := [iv r295]) (q := 809) (x0 := r303) (σ0 := σ304) hC (sX7_holds l hG (hRx _) (hRx _) (hRx _) hs299 hc305) (cwV 3 hC.2.2.2.2.1 gL_law_X7_holds rfl rfl rfl (by decide +kernel) ⟨Nat.le_of_ble_eq_true rfl, Nat.le_of_ble_eq_true rfl⟩) ⟨_, rfl, rfl⟩ iD7 (fun _ => ⟨_, rfl⟩) rfl rfl (Nat.le_of_ble_eq_true rfl) dL_law_806 rfl hce (fun hr306 hs307 => ?_)
                                              refine V_icmp_eq (tgt := 1276) (q := 812) hC hr298 hr306 dL_law_809 (by decide) rfl (fun c308 => ?_) (fun c308 => ?_)
                                              · replace hf := (if_pos c308).symm.trans hf
                                                refine V_iinc (i := 3) (lv' := [(0, .ref b), (1, rf G 6 0), (2, rf G 7 0), (3, iv (wr (v3 + 6)))]) (q := 1279) hC 3 rfl [1, 2, 3, 0] (by decide) rfl dL_law_1276 rfl ?_
                                                refine V_goto (tgt := 18) hC dL_law_1279 (by decide) ?_
                                                refine V_lsub [0, 1, 2, 3] rfl ?_
                                                exact ih hs307 (Rg_wr _) hf
                                              · replace hf := (if_neg c308).symm.trans hf
                                                refine V_iconst (q := 813) hC dL_law_812 rfl ?_
                                                exact (law_no hf).elim
                                            · replace hf := (if_neg c291).symm.trans hf
                                              by_cases c309 : qand (xs v3.toNat) 63 = 20
                                              · replace hf := (if_pos c309).symm.trans hf
                                                refine V_tabIn (tgt := 814) hC (Rg_qand _ _) dL_law_33 (by omega) (by omega) (by rw [c309]; rfl) (by decide) ?_
                                                refine V_aload_n (k := 1) (q := 815) hC 1 rfl dL_law_814 rfl ?_
                                                refine V_aload_n (k := 0) (q := 816) hC 0 rfl dL_law_815 rfl ?_
                                                refine V_iload_n (k := 3) (q := 817) hC 3 rfl dL_law_816 rfl ?_
                                                refine V_iconst (q := 818) hC dL_law_817 rfl ?_
                                                refine V_iadd (q := 819) hC dL_law_818 rfl ?_
                                                obtain ⟨g310, hf⟩ := gd_some hf
                                                refine V_sld (q := 820) hC hX hbl hxs g310 (Rg_wr _) dL_law_819 rfl ?_
                                                refine V_aload_n (k := 0) (q := 821) hC 0 rfl dL_law_820 rfl ?_
                                                refine V_iload_n (k := 3) (q := 822) hC 3 rfl dL_law_821 rfl ?_
                                                refine V_iconst (q := 823) hC dL_law_822 rfl ?_
                                                refine V_iadd (q := 824) hC dL_law_823 rfl ?_
                                                obtain ⟨g311, hf⟩ := gd_some hf
                                                refine V_sld (q := 825) hC hX hbl hxs g311 (Rg_wr _) dL_law_824 rfl ?_
                                                obtain ⟨r312, σ313, hc314, hf⟩ := cl_some hf
                                                refine V_cvi (st := []) (q := 828) (x0 := r312) (σ0 := σ313) hC (sX6_deep l hG (hRx _) (hRx _) hs hc314) (cwV 2 hC.2.2.2.2.1 gL_law_X6_deep rfl rfl rfl (by decide +kernel) ⟨Nat.le_of_ble_eq_true rfl, Nat.le_of_ble_eq_true rfl⟩) ⟨_, rfl, rfl⟩ iD6 (fun _ => ⟨_, rfl⟩) rfl rfl (Nat.le_of_ble_eq_true rfl) dL_law_825 rfl hce (fun hr315 hs316 => ?_)
                                                refine V_aload_n (k := 2) (q := 829) hC 2 rfl dL_law_828 rfl ?_
                                                refine V_aload_n (k := 0) (q := 830) hC 0 rfl dL_law_829 rfl ?_
                                                refine V_iload_n (k := 3) (q := 831) hC 3 rfl dL_law_830 rfl ?_
                                                refine V_iconst (q := 832) hC dL_law_831 rfl ?_
                                                refine V_iadd (q := 833) hC dL_law_832 rfl ?_
                                                obtain ⟨g317, hf⟩ := gd_some hf
                                                refine V_sld (q := 834) hC hX hbl hxs g317 (Rg_wr _) dL_law_833 rfl ?_
                                                refine V_aload_n (k := 0) (q := 835) hC 0 rfl dL_law_834 rfl ?_
                                                refine V_iload_n (k := 3) (q := 836) hC 3 rfl dL_law_835 rfl ?_
                                                refine V_iconst (q := 837) hC dL_law_836 rfl ?_
                                                refine V_iadd (q := 838) hC dL_law_837 rfl ?_
                                                obtain ⟨g318, hf⟩ := gd_some hf
                                                refine V_sld (q := 839) hC hX hbl hxs g318 (Rg_wr _) dL_law_838 rfl ?_
                                                obtain ⟨r319, σ320, hc321, hf⟩ := cl_some hf
                                                refine V_cvi (st := [iv r312]) (q := 842) (x0 := r319) (σ0 := σ320) hC (sX7_deep l hG (hRx _) (hRx _) hs316 hc321) (cwV 2 hC.2.2.2.2.1 gL_law_X7_deep rfl rfl rfl (by decide +kernel) ⟨Nat.le_of_ble_eq_true rfl, Nat.le_of_ble_eq_true rfl⟩) ⟨_, rfl, rfl⟩ iD7 (fun _ => ⟨_, rfl⟩) rfl rfl (Nat.le_of_ble_eq_true rfl) dL_law_839 rfl hce (fun hr322 hs323 => ?_)
                                                refine V_icmp_eq (tgt := 1276) (q := 845) hC hr315 hr322 dL_law_842 (by decide) rfl (fun c324 => ?_) (fun c324 => ?_)
                                                · replace hf := (if_pos c324).symm.trans hf
                                                  refine V_iinc (i := 3) (lv' := [(0, .ref b), (1, rf G 6 0), (2, rf G 7 0), (3, iv (wr (v3 + 6)))]) (q := 1279) hC 3 rfl [1, 2, 3, 0] (by decide) rfl dL_law_1276 rfl ?_
                                                  refine V_goto (tgt := 18) hC dL_law_1279 (by decide) ?_
                                                  refine V_lsub [0, 1, 2, 3] rfl ?_
                                                  exact ih hs323 (Rg_wr _) hf
                                                · replace hf := (if_neg c324).symm.trans hf
                                                  refine V_iconst (q := 846) hC dL_law_845 rfl ?_
                                                  exact (law_no hf).elim
                                              · replace hf := (if_neg c309).symm.trans hf
                                                by_cases c325 : qand (xs v3.toNat) 63 = 21
                                                · replace hf := (if_pos c325).symm.trans hf
                                                  refine V_tabIn (tgt := 847) hC (Rg_qand _ _) dL_law_33 (by omega) (by omega) (by rw [c325]; rfl) (by decide) ?_
                                                  refine V_aload_n (k := 1) (q := 848) hC 1 rfl dL_law_847 rfl ?_
                                                  refine V_aload_n (k := 0) (q := 849) hC 0 rfl dL_law_848 rfl ?_
                                                  refine V_iload_n (k := 3) (q := 850) hC 3 rfl dL_law_849 rfl ?_
                                                  refine V_iconst (q := 851) hC dL_law_850 rfl ?_
                                                  refine V_iadd (q := 852) hC dL_law_851 rfl ?_
                                                  obtain ⟨g326, hf⟩ := gd_some hf
                                                  refine V_sld (q := 853) hC hX hbl hxs g326 (Rg_wr _) dL_law_852 rfl ?_
                                                  refine V_aload_n (k := 0) (q := 854) hC 0 rfl dL_law_853 rfl ?_
                                                  refine V_iload_n (k := 3) (q := 855) hC 3 rfl dL_law_854 rfl ?_
                                                  refine V_iconst (q := 856) hC dL_law_855 rfl ?_
                                                  refine V_iadd (q := 857) hC dL_law_856 rfl ?_
                                                  obtain ⟨g327, hf⟩ := gd_some hf
                                                  refine V_sld (q := 858) hC hX hbl hxs g327 (Rg_wr _) dL_law_857 rfl ?_
                                                  obtain ⟨r328, σ329, hc330, hf⟩ := cl_some hf
                                                  refine V_cvi (st := []) (q := 861) (x0 := r328) (σ0 := σ329) hC (sX6_meet l hG (hRx _) (hRx _) hs hc330) (cwV 2 hC.2.2.2.2.1 gL_law_X6_meet rfl rfl rfl (by decide +kernel) ⟨Nat.le_of_ble_eq_true rfl, Nat.le_of_ble_eq_true rfl⟩) ⟨_, rfl, rfl⟩ iD6 (fun _ => ⟨_, rfl⟩) rfl rfl (Nat.le_of_ble_eq_true rfl) dL_law_858 rfl hce (fun hr331 hs332 => ?_)
                                                  refine V_aload_n (k := 2) (q := 862) hC 2 rfl dL_law_861 rfl ?_
                                                  refine V_aload_n (k := 0) (q := 863) hC 0 rfl dL_law_862 rfl ?_
                                                  refine V_iload_n (k := 3) (q := 864) hC 3 rfl dL_law_863 rfl ?_
                                                  refine V_iconst (q := 865) hC dL_law_864 rfl ?_
                                                  refine V_iadd (q := 866) hC dL_law_865 rfl ?_
                                                  obtain ⟨g333, hf⟩ := gd_some hf
                                                  refine V_sld (q := 867) hC hX hbl hxs g333 (Rg_wr _) dL_law_866 rfl ?_
                                                  refine V_aload_n (k := 0) (q := 868) hC 0 rfl dL_law_867 rfl ?_
                                                  refine V_iload_n (k := 3) (q := 869) hC 3 rfl dL_law_868 rfl ?_
                                                  refine V_iconst (q := 870) hC dL_law_869 rfl ?_
                                                  refine V_iadd (q := 871) hC dL_law_870 rfl ?_
                                                  obtain ⟨g334, hf⟩ := gd_some hf
                                                  refine V_sld (q := 872) hC hX hbl hxs g334 (Rg_wr _) dL_law_871 rfl ?_
                                                  obtain ⟨r335, σ336, hc337, hf⟩ := cl_some hf
                                                  refine V_cvi (st := [iv r328]) (q := 875) (x0 := r335) (σ0 := σ336) hC (sX7_meet l hG (hRx _) (hRx _) hs332 hc337) (cwV 2 hC.2.2.2.2.1 gL_law_X7_meet rfl rfl rfl (by decide +kernel) ⟨Nat.le_of_ble_eq_true rfl, Nat.le_of_ble_eq_true rfl⟩) ⟨_, rfl, rfl⟩ iD7 (fun _ => ⟨_, rfl⟩) rfl rfl (Nat.le_of_ble_eq_true rfl) dL_law_872 rfl hce (fun hr338 hs339 => ?_)
                                                  refine V_icmp_eq (tgt := 1276) (q := 878) hC hr331 hr338 dL_law_875 (by decide) rfl (fun c340 => ?_) (fun c340 => ?_)
                                                  · replace hf := (if_pos c340).symm.trans hf
                                                    refine V_iinc (i := 3) (lv' := [(0, .ref b), (1, rf G 6 0), (2, rf G 7 0), (3, iv (wr (v3 + 6)))]) (q := 1279) hC 3 rfl [1, 2, 3, 0] (by decide) rfl dL_law_1276 rfl ?_
                                                    refine V_goto (tgt := 18) hC dL_law_1279 (by decide) ?_
                                                    refine V_lsub [0, 1, 2, 3] rfl ?_
                                                    exact ih hs339 (Rg_wr _) hf
                                                  · replace hf := (if_neg c340).symm.trans hf
                                                    refine V_iconst (q := 879) hC dL_law_878 rfl ?_
                                                    exact (law_no hf).elim
                                                · replace hf := (if_neg c325).symm.trans hf
                                                  by_cases c341 : qand (xs v3.toNat) 63 = 22
                                                  · replace hf := (if_pos c341).symm.trans hf
                                                    refine V_tabIn (tgt := 880) hC (Rg_qand _ _) dL_law_33 (by omega) (by omega) (by rw [c341]; rfl) (by decide) ?_
                                                    refine V_aload_n (k := 1) (q := 881) hC 1 rfl dL_law_880 rfl ?_
                                                    refine V_aload_n (k := 0) (q := 882) hC 0 rfl dL_law_881 rfl ?_
                                                    refine V_iload_n (k := 3) (q := 883) hC 3 rfl dL_law_882 rfl ?_
                                                    refine V_iconst (q := 884) hC dL_law_883 rfl ?_
                                                    refine V_iadd (q := 885) hC dL_law_884 rfl ?_
                                                    obtain ⟨g342, hf⟩ := gd_some hf
                                                    refine V_sld (q := 886) hC hX hbl hxs g342 (Rg_wr _) dL_law_885 rfl ?_
                                                    refine V_aload_n (k := 0) (q := 887) hC 0 rfl dL_law_886 rfl ?_
                                                    refine V_iload_n (k := 3) (q := 888) hC 3 rfl dL_law_887 rfl ?_
                                                    refine V_iconst (q := 889) hC dL_law_888 rfl ?_
                                                    refine V_iadd (q := 890) hC dL_law_889 rfl ?_
                                                    obtain ⟨g343, hf⟩ := gd_some hf
                                                    refine V_sld (q := 891) hC hX hbl hxs g343 (Rg_wr _) dL_law_890 rfl ?_
                                                    obtain ⟨r344, σ345, hc346, hf⟩ := cl_some hf
                                                    refine V_cvi (st := []) (q := 894) (x0 := r344) (σ0 := σ345) hC (sX6_rings l hG (hRx _) (hRx _) hs hc346) (cwV 2 hC.2.2.2.2.1 gL_law_X6_rings rfl rfl rfl (by decide +kernel) ⟨Nat.le_of_ble_eq_true rfl, Nat.le_of_ble_eq_true rfl⟩) ⟨_, rfl, rfl⟩ iD6 (fun _ => ⟨_, rfl⟩) rfl rfl (Nat.le_of_ble_eq_true rfl) dL_law_891 rfl hce (fun hr347 hs348 => ?_)
                                                    refine V_aload_n (k := 2) (q := 895) hC 2 rfl dL_law_894 rfl ?_
                                                    refine V_aload_n (k := 0) (q := 896) hC 0 rfl dL_law_895 rfl ?_
                                                    refine V_iload_n (k := 3) (q := 897) hC 3 rfl dL_law_896 rfl ?_
                                                    refine V_iconst (q := 898) hC dL_law_897 rfl ?_
                                                    refine V_iadd (q := 899) hC dL_law_898 rfl ?_
                                                    obtain ⟨g349, hf⟩ := gd_some hf
                                                    refine V_sld (q := 900) hC hX hbl hxs g349 (Rg_wr _) dL_law_899 rfl ?_
                                                    refine V_aload_n (k := 0) (q := 901) hC 0 rfl dL_law_900 rfl ?_
                                                    refine V_iload_n (k := 3) (q := 902) hC 3 rfl dL_law_901 rfl ?_
                                                    refine V_iconst (q := 903) hC dL_law_902 rfl ?_
                                                    refine V_iadd (q := 904) hC dL_law_903 rfl ?_
                                                    obtain ⟨g350, hf⟩ := gd_some hf
                                                    refine V_sld (q := 905) hC hX hbl hxs g350 (Rg_wr _) dL_law_904 rfl ?_
                                                    obtain ⟨r351, σ352, hc353, hf⟩ := cl_some hf
                                                    refine V_cvi (st := [iv r344]) (q := 908) (x0 := r351) (σ0 := σ352) hC (sX7_rings l hG (hRx _) (hRx _) hs348 hc353) (cwV 2 hC.2.2.2.2.1 gL_law_X7_rings rfl rfl rfl (by decide +kernel) ⟨Nat.le_of_ble_eq_true rfl, Nat.le_of_ble_eq_true rfl⟩) ⟨_, rfl, rfl⟩ iD7 (fun _ => ⟨_, rfl⟩) rfl rfl (Nat.le_of_ble_eq_true rfl) dL_law_905 rfl hce (fun hr354 hs355 => ?_)
                                                    refine V_icmp_eq (tgt := 1276) (q := 911) hC hr347 hr354 dL_law_908 (by decide) rfl (fun c356 => ?_) (fun c356 => ?_)
                                                    · replace hf := (if_pos c356).symm.trans hf
                                                      refine V_iinc (i := 3) (lv' := [(0, .ref b), (1, rf G 6 0), (2, rf G 7 0), (3, iv (wr (v3 + 6)))]) (q := 1279) hC 3 rfl [1, 2, 3, 0] (by decide) rfl dL_law_1276 rfl ?_
                                                      refine V_goto (tgt := 18) hC dL_law_1279 (by decide) ?_
                                                      refine V_lsub [0, 1, 2, 3] rfl ?_
                                                      exact ih hs355 (Rg_wr _) hf
                                                    · replace hf := (if_neg c356).symm.trans hf
                                                      refine V_iconst (q := 912) hC dL_law_911 rfl ?_
                                                      exact (law_no hf).elim
                                                  · replace hf := (if_neg c341).symm.trans hf
                                                    by_cases c357 : qand (xs v3.toNat) 63 = 23
                                                    · replace hf := (if_pos c357).symm.trans hf
                                                      refine V_tabIn (tgt := 913) hC (Rg_qand _ _) dL_law_33 (by omega) (by omega) (by rw [c357]; rfl) (by decide) ?_
                                                      refine V_aload_n (k := 1) (q := 914) hC 1 rfl dL_law_913 rfl ?_
                                                      refine V_aload_n (k := 0) (q := 915) hC 0 rfl dL_law_914 rfl ?_
                                                      refine V_iload_n (k := 3) (q := 916) hC 3 rfl dL_law_915 rfl ?_
                                                      refine V_iconst (q := 917) hC dL_law_916 rfl ?_
                                                      refine V_iadd (q := 918) hC dL_law_917 rfl ?_
                                                      obtain ⟨g358, hf⟩ := gd_some hf
                                                      refine V_sld (q := 919) hC hX hbl hxs g358 (Rg_wr _) dL_law_918 rfl ?_
                                                      refine V_aload_n (k := 0) (q := 920) hC 0 rfl dL_law_919 rfl ?_
                                                      refine V_iload_n (k := 3) (q := 921) hC 3 rfl dL_law_920 rfl ?_
                                                      refine V_iconst (q := 922) hC dL_law_921 rfl ?_
                                                      refine V_iadd (q := 923) hC dL_law_922 rfl ?_
                                                      obtain ⟨g359, hf⟩ := gd_some hf
                                                      refine V_sld (q := 924) hC hX hbl hxs g359 (Rg_wr _) dL_law_923 rfl ?_
                                                      refine V_aload_n (k := 0) (q := 925) hC 0 rfl dL_law_924 rfl ?_
                                                      refine V_iload_n (k := 3) (q := 926) hC 3 rfl dL_law_925 rfl ?_
                                                      refine V_iconst (q := 927) hC dL_law_926 rfl ?_
                                                      refine V_iadd (q := 928) hC dL_law_927 rfl ?_
                                                      obtain ⟨g360, hf⟩ := gd_some hf
                                                      refine V_sld (q := 929) hC hX hbl hxs g360 (Rg_wr _) dL_law_928 rfl ?_
                                                      refine V_aload_n (k := 0) (q := 930) hC 0 rfl dL_law_929 rfl ?_
                                                      refine V_iload_n (k := 3) (q := 931) hC 3 rfl dL_law_930 rfl ?_
                                                      refine V_iconst (q := 932) hC dL_law_931 rfl ?_
                                                      refine V_iadd (q := 933) hC dL_law_932 rfl ?_
                                                      obtain ⟨g361, hf⟩ := gd_some hf
                                                      refine V_sld (q := 934) hC hX hbl hxs g361 (Rg_wr _) dL_law_933 rfl ?_
                                                      obtain ⟨r362, σ363, hc364, hf⟩ := cl_some hf
                                                      refine V_cvi (st := []) (q := 937) (x0 := r362) (σ0 := σ363) hC (sX6_gaps l hG (hRx _) (hRx _) (hRx _) (hRx _) hs hc364) (cwV 4 hC.2.2.2.2.1 gL_law_X6_gaps rfl rfl rfl (by decide +kernel) ⟨Nat.le_of_ble_eq_true rfl, Nat.le_of_ble_eq_true rfl⟩) ⟨_, rfl, rfl⟩ iD6 (fun _ => ⟨_, rfl⟩) rfl rfl (Nat.le_of_ble_eq_true rfl) dL_law_934 rfl hce (fun hr365 hs366 => ?_)
                                                      refine V_aload_n (k := 2) (q := 938) hC 2 rfl dL_law_937 rfl ?_
                                                      refine V_aload_n (k := 0) (q := 939) hC 0 rfl dL_law_938 rfl ?_
                                                      refine V_iload_n (k := 3) (q := 940) hC 3 rfl dL_law_939 rfl ?_
                                                      refine V_iconst (q := 941) hC dL_law_940 rfl ?_
                                                      refine V_iadd (q := 942) hC dL_law_941 rfl ?_
                                                      obtain ⟨g367, hf⟩ := gd_some hf
                                                      refine V_sld (q := 943) hC hX hbl hxs g367 (Rg_wr _) dL_law_942 rfl ?_
                                                      refine V_aload_n (k := 0) (q := 944) hC 0 rfl dL_law_943 rfl ?_
                                                      refine V_iload_n (k := 3) (q := 945) hC 3 rfl dL_law_944 rfl ?_
                                                      refine V_iconst (q := 946) hC dL_law_945 rfl ?_
                                                      refine V_iadd (q := 947) hC dL_law_946 rfl ?_
                                                      obtain ⟨g368, hf⟩ := gd_some hf
                                                      refine V_sld (q := 948) hC hX hbl hxs g368 (Rg_wr _) dL_law_947 rfl ?_
                                                      refine V_aload_n (k := 0) (q := 949) hC 0 rfl dL_law_948 rfl ?_
                                                      refine V_iload_n (k := 3) (q := 950) hC 3 rfl dL_law_949 rfl ?_
                                                      refine V_iconst (q := 951) hC dL_law_950 rfl ?_
                                                      refine V_iadd (q := 952) hC dL_law_951 rfl ?_
                                                      obtain ⟨g369, hf⟩ := gd_some hf
                                                      refine V_sld (q := 953) hC hX hbl hxs g369 (Rg_wr _) dL_law_952 rfl ?_
                                                      refine V_aload_n (k := 0) (q := 954) hC 0 rfl dL_law_953 rfl ?_
                                                      refine V_iload_n (k := 3) (q := 955) hC 3 rfl dL_law_954 rfl ?_
                                                      refine V_iconst (q := 956) hC dL_law_955 rfl ?_
                                                      refine V_iadd (q := 957) hC dL_law_956 rfl ?_
                                                      obtain ⟨g370, hf⟩ := gd_some hf
                                                      refine V_sld (q := 958) hC hX hbl hxs g370 (Rg_wr _) dL_law_957 rfl ?_
                                                      obtain ⟨r371, σ372, hc373, hf⟩ := cl_some hf
                                                      refine V_cvi (st := [iv r362]) (q := 961) (x0 := r371) (σ0 := σ372) hC (sX7_gaps l hG (hRx _) (hRx _) (hRx _) (hRx _) hs366 hc373) (cwV 4 hC.2.2.2.2.1 gL_law_X7_gaps rfl rfl rfl (by decide +kernel) ⟨Nat.le_of_ble_eq_true rfl, Nat.le_of_ble_eq_true rfl⟩) ⟨_, rfl, rfl⟩ iD7 (fun _ => ⟨_, rfl⟩) rfl rfl (Nat.le_of_ble_eq_true rfl) dL_law_958 rfl hce (fun hr374 hs375 => ?_)
                                                      refine V_icmp_eq (tgt := 1276) (q := 964) hC hr365 hr374 dL_law_961 (by decide) rfl (fun c376 => ?_) (fun c376 => ?_)
                                                      · replace hf := (if_pos c376).symm.trans hf
                                                        refine V_iinc (i := 3) (lv' := [(0, .ref b), (1, rf G 6 0), (2, rf G 7 0), (3, iv (wr (v3 + 6)))]) (q := 1279) hC 3 rfl [1, 2, 3, 0] (by decide) rfl dL_law_1276 rfl ?_
                                                        refine V_goto (tgt := 18) hC dL_law_1279 (by decide) ?_
                                                        refine V_lsub [0, 1, 2, 3] rfl ?_
                                                        exact ih hs375 (Rg_wr _) hf
                                                      · replace hf := (if_neg c376).symm.trans hf
                                                        refine V_iconst (q := 965) hC dL_law_964 rfl ?_
                                                        exact (law_no hf).elim
                                                    · replace hf := (if_neg c357).symm.trans hf
                                                      by_cases c377 : qand (xs v3.toNat) 63 = 24
                                                      · replace hf := (if_pos c377).symm.trans hf
                                                        refine V_tabIn (tgt := 966) hC (Rg_qand _ _) dL_law_33 (by omega) (by omega) (by rw [c377]; rfl) (by decide) ?_
                                                        refine V_aload_n (k := 1) (q := 967) hC 1 rfl dL_law_966 rfl ?_
                                                        refine V_aload_n (k := 0) (q := 968) hC 0 rfl dL_law_967 rfl ?_
                                                        refine V_iload_n (k := 3) (q := 969) hC 3 rfl dL_law_968 rfl ?_
                                                        refine V_iconst (q := 970) hC dL_law_969 rfl ?_
                                                        refine V_iadd (q := 971) hC dL_law_970 rfl ?_
                                                        obtain ⟨g378, hf⟩ := gd_some hf
                                                        refine V_sld (q := 972) hC hX hbl hxs g378 (Rg_wr _) dL_law_971 rfl ?_
                                                        refine V_aload_n (k := 0) (q := 973) hC 0 rfl dL_law_972 rfl ?_
                                                        refine V_iload_n (k := 3) (q := 974) hC 3 rfl dL_law_973 rfl ?_
                                                        refine V_iconst (q := 975) hC dL_law_974 rfl ?_
                                                        refine V_iadd (q := 976) hC dL_law_975 rfl ?_
                                                        obtain ⟨g379, hf⟩ := gd_some hf
                                                        refine V_sld (q := 977) hC hX hbl hxs g379 (Rg_wr _) dL_law_976 rfl ?_
                                                        refine V_aload_n (k := 0) (q := 978) hC 0 rfl dL_law_977 rfl ?_
                                                        refine V_iload_n (k := 3) (q := 979) hC 3 rfl dL_law_978 rfl ?_
                                                        refine V_iconst (q := 980) hC dL_law_979 rfl ?_
                                                        refine V_iadd (q := 981) hC dL_law_980 rfl ?_
                                                        obtain ⟨g380, hf⟩ := gd_some hf
                                                        refine V_sld (q := 982) hC hX hbl hxs g380 (Rg_wr _) dL_law_981 rfl ?_
                                                        refine V_aload_n (k := 0) (q := 983) hC 0 rfl dL_law_982 rfl ?_
                                                        refine V_iload_n (k := 3) (q := 984) hC 3 rfl dL_law_983 rfl ?_
                                                        refine V_iconst (q := 985) hC dL_law_984 rfl ?_
                                                        refine V_iadd (q := 986) hC dL_law_985 rfl ?_
                                                        obtain ⟨g381, hf⟩ := gd_some hf
                                                        refine V_sld (q := 987) hC hX hbl hxs g381 (Rg_wr _) dL_law_986 rfl ?_
                                                        refine V_aload_n (k := 0) (q := 988) hC 0 rfl dL_law_987 rfl ?_
                                                        refine V_iload_n (k := 3) (q := 989) hC 3 rfl dL_law_988 rfl ?_
                                                        refine V_iconst (q := 990) hC dL_law_989 rfl ?_
                                                        refine V_iadd (q := 991) hC dL_law_990 rfl ?_
                                                        obtain ⟨g382, hf⟩ := gd_some hf
                                                        refine V_sld (q := 992) hC hX hbl hxs g382 (Rg_wr _) dL_law_991 rfl ?_
                                                        obtain ⟨r383, σ384, hc385, hf⟩ := cl_some hf
                                                        refine V_cvi (st := []) (q := 995) (x0 := r383) (σ0 := σ384) hC (sX6_which l hG (hRx _) (hRx _) (hRx _) (hRx _) (hRx _) hs hc385) (cwV 5 hC.2.2.2.2.1 gL_law_X6_which rfl rfl rfl (by decide +kernel) ⟨Nat.le_of_ble_eq_true rfl, Nat.le_of_ble_eq_true rfl⟩) ⟨_, rfl, rfl⟩ iD6 (fun _ => ⟨_, rfl⟩) rfl rfl (Nat.le_of_ble_eq_true rfl) dL_law_992 rfl hce (fun hr386 hs387 => ?_)
                                                        refine V_aload_n (k := 2) (q := 996) hC 2 rfl dL_law_995 rfl ?_
                                                        refine V_aload_n (k := 0) (q := 997) hC 0 rfl dL_law_996 rfl ?_
                                                        refine V_iload_n (k := 3) (q := 998) hC 3 rfl dL_law_997 rfl ?_
                                                        refine V_iconst (q := 999) hC dL_law_998 rfl ?_
                                                        refine V_iadd (q := 1000) hC dL_law_999 rfl ?_
                                                        obtain ⟨g388, hf⟩ := gd_some hf
                                                        refine V_sld (q := 1001) hC hX hbl hxs g388 (Rg_wr _) dL_law_1000 rfl ?_
                                                        refine V_aload_n (k := 0) (q := 1002) hC 0 rfl dL_law_1001 rfl ?_
                                                        refine V_iload_n (k := 3) (q := 1003) hC 3 rfl dL_law_1002 rfl ?_
                                                        refine V_iconst (q := 1004) hC dL_law_1003 rfl ?_
                                                        refine V_iadd (q := 1005) hC dL_law_1004 rfl ?_
                                                        obtain ⟨g389, hf⟩ := gd_some hf
                                                        refine V_sld (q := 1006) hC hX hbl hxs g389 (Rg_wr _) dL_law_1005 rfl ?_
                                                        refine V_aload_n (k := 0) (q := 1007) hC 0 rfl dL_law_1006 rfl ?_
                                                        refine V_iload_n (k := 3) (q := 1008) hC 3 rfl dL_law_1007 rfl ?_
                                                        refine V_iconst (q := 1009) hC dL_law_1008 rfl ?_
                                                        refine V_iadd (q := 1010) hC dL_law_1009 rfl ?_
                                                        obtain ⟨g390, hf⟩ := gd_some hf
                                                        refine V_sld (q := 1011) hC hX hbl hxs g390 (Rg_wr _) dL_law_1010 rfl ?_
                                                        refine V_aload_n (k := 0) (q := 1012) hC 0 rfl dL_law_1011 rfl ?_
                                                        refine V_iload_n (k := 3) (q := 1013) hC 3 rfl dL_law_1012 rfl ?_
                                                        refine V_iconst (q := 1014) hC dL_law_1013 rfl ?_
                                                        refine V_iadd (q := 1015) hC dL_law_1014 rfl ?_
                                                        obtain ⟨g391, hf⟩ := gd_some hf
                                                        refine V_sld (q := 1016) hC hX hbl hxs g391 (Rg_wr _) dL_law_1015 rfl ?_
                                                        refine V_aload_n (k := 0) (q := 1017) hC 0 rfl dL_law_1016 rfl ?_
                                                        refine V_iload_n (k := 3) (q := 1018) hC 3 rfl dL_law_1017 rfl ?_
                                                        refine V_iconst (q := 1019) hC dL_law_1018 rfl ?_
                                                        refine V_iadd (q := 1020) hC dL_law_1019 rfl ?_
                                                        obtain ⟨g392, hf⟩ := gd_some hf
                                                        refine V_sld (q := 1021) hC hX hbl hxs g392 (Rg_wr _) dL_law_1020 rfl ?_
                                                        obtain ⟨r393, σ394, hc395, hf⟩ := cl_some hf
                                                        refine V_cvi (st := [iv r383]) (q := 1024) (x0 := r393) (σ0 := σ394) hC (sX7_which l hG (hRx _) (hRx _) (hRx _) (hRx _) (hRx _) hs387 hc395) (cwV 5 hC.2.2.2.2.1 gL_law_X7_which rfl rfl rfl (by decide +kernel) ⟨Nat.le_of_ble_eq_true rfl, Nat.le_of_ble_eq_true rfl⟩) ⟨_, rfl, rfl⟩ iD7 (fun _ => ⟨_, rfl⟩) rfl rfl (Nat.le_of_ble_eq_true rfl) dL_law_1021 rfl hce (fun hr396 hs397 => ?_)
                                                        refine V_icmp_eq (tgt := 1276) (q := 1027) hC hr386 hr396 dL_law_1024 (by decide) rfl (fun c398 => ?_) (fun c398 => ?_)
                                                        · replace hf := (if_pos c398).symm.trans hf
                                                          refine V_iinc (i := 3) (lv' := [(0, .ref b), (1, rf G 6 0), (2, rf G 7 0), (3, iv (wr (v3 + 6)))]) (q := 1279) hC 3 rfl [1, 2, 3, 0] (by decide) rfl dL_law_1276 rfl ?_
                                                          refine V_goto (tgt := 18) hC dL_law_1279 (by decide) ?_
                                                          refine V_lsub [0, 1, 2, 3] rfl ?_
                                                          exact ih hs397 (Rg_wr _) hf
                                                        · replace hf := (if_neg c398).symm.trans hf
                                                          refine V_iconst (q := 1028) hC dL_law_1027 rfl ?_
                                                          exact (law_no hf).elim
                                                      · replace hf := (if_neg c377).symm.trans hf
                                                        by_cases c399 : qand (xs v3.toNat) 63 = 25
                                                        · replace hf := (if_pos c399).symm.trans hf
                                                          refine V_tabIn (tgt := 1029) hC (Rg_qand _ _) dL_law_33 (by omega) (by omega) (by rw [c399]; rfl) (by decide) ?_
                                                          refine V_aload_n (k := 1) (q := 1030) hC 1 rfl dL_law_1029 rfl ?_
                                                          refine V_aload_n (k := 0) (q := 1031) hC 0 rfl dL_law_1030 rfl ?_
                                                          refine V_iload_n (k := 3) (q := 1032) hC 3 rfl dL_law_1031 rfl ?_
                                                          refine V_iconst (q := 1033) hC dL_law_1032 rfl ?_
                                                          refine V_iadd (q := 1034) hC dL_law_1033 rfl ?_
                                                          obtain ⟨g400, hf⟩ := gd_some hf
                                                          refine V_sld (q := 1035) hC hX hbl hxs g400 (Rg_wr _) dL_law_1034 rfl ?_
                                                          refine V_aload_n (k := 0) (q := 1036) hC 0 rfl dL_law_1035 rfl ?_
                                                          refine V_iload_n (k := 3) (q := 1037) hC 3 rfl dL_law_1036 rfl ?_
                                                          refine V_iconst (q := 1038) hC dL_law_1037 rfl ?_
                                                          refine V_iadd (q := 1039) hC dL_law_1038 rfl ?_
                                                          obtain ⟨g401, hf⟩ := gd_some hf
                                                          refine V_sld (q := 1040) hC hX hbl hxs g401 (Rg_wr _) dL_law_1039 rfl ?_
                                                          refine V_aload_n (k := 0) (q := 1041) hC 0 rfl dL_law_1040 rfl ?_
                                                          refine V_iload_n (k := 3) (q := 1042) hC 3 rfl dL_law_1041 rfl ?_
                                                          refine V_iconst (q := 1043) hC dL_law_1042 rfl ?_
                                                          refine V_iadd (q := 1044) hC dL_law_1043 rfl ?_
                                                          obtain ⟨g402, hf⟩ := gd_some hf
                                                          refine V_sld (q := 1045) hC hX hbl hxs g402 (Rg_wr _) dL_law_1044 rfl ?_
                                                          refine V_aload_n (k := 0) (q := 1046) hC 0 rfl dL_law_1045 rfl ?_
                                                          refine V_iload_n (k := 3) (q := 1047) hC 3 rfl dL_law_1046 rfl ?_
                                                          refine V_iconst (q := 1048) hC dL_law_1047 rfl ?_
                                                          refine V_iadd (q := 1049) hC dL_law_1048 rfl ?_
                                                          obtain ⟨g403, hf⟩ := gd_some hf
                                                          refine V_sld (q := 1050) hC hX hbl hxs g403 (Rg_wr _) dL_law_1049 rfl ?_
                                                          obtain ⟨r404, σ405, hc406, hf⟩ := cl_some hf
                                                          refine V_cvi (st := []) (q := 1053) (x0 := r404) (σ0 := σ405) hC (sX6_storm l hG (hRx _) (hRx _) (hRx _) (hRx _) hs hc406) (cwV 4 hC.2.2.2.2.1 gL_law_X6_storm rfl rfl rfl (by decide +kernel) ⟨Nat.le_of_ble_eq_true rfl, Nat.le_of_ble_eq_true rfl⟩) ⟨_, rfl, rfl⟩ iD6 (fun _ => ⟨_, rfl⟩) rfl rfl (Nat.le_of_ble_eq_true rfl) dL_law_1050 rfl hce (fun hr407 hs408 => ?_)
                                                          refine V_aload_n (k := 2) (q := 1054) hC 2 rfl dL_law_1053 rfl ?_
                                                          refine V_aload_n (k := 0) (q := 1055) hC 0 rfl dL_law_1054 rfl ?_
                                                          refine V_iload_n (k := 3) (q := 1056) hC 3 rfl dL_law_1055 rfl ?_
                                                          refine V_iconst (q := 1057) hC dL_law_1056 rfl ?_
                                                          refine V_iadd (q := 1058) hC dL_law_1057 rfl ?_
                                                          obtain ⟨g409, hf⟩ := gd_some hf
                                                          refine V_sld (q := 1059) hC hX hbl hxs g409 (Rg_wr _) dL_law_1058 rfl ?_
                                                          refine V_aload_n (k := 0) (q := 1060) hC 0 rfl dL_law_1059 rfl ?_
                                                          refine V_iload_n (k := 3) (q := 1061) hC 3 rfl dL_law_1060 rfl ?_
                                                          refine V_iconst (q := 1062) hC dL_law_1061 rfl ?_
                                                          refine V_iadd (q := 1063) hC dL_law_1062 rfl ?_
                                                          obtain ⟨g410, hf⟩ := gd_some hf
                                                          refine V_sld (q := 1064) hC hX hbl hxs g410 (Rg_wr _) dL_law_1063 rfl ?_
                                                          refine V_aload_n (k := 0) (q := 1065) hC 0 rfl dL_law_1064 rfl ?_
                                                          refine V_iload_n (k := 3) (q := 1066) hC 3 rfl dL_law_1065 rfl ?_
                                                          refine V_iconst (q := 1067) hC dL_law_1066 rfl ?_
                                                          refine V_iadd (q := 1068) hC dL_law_1067 rfl ?_
                                                          obtain ⟨g411, hf⟩ := gd_some hf
                                                          refine V_sld (q := 1069) hC hX hbl hxs g411 (Rg_wr _) dL_law_1068 rfl ?_
                                                          refine V_aload_n (k := 0) (q := 1070) hC 0 rfl dL_law_1069 rfl ?_
                                                          refine V_iload_n (k := 3) (q := 1071) hC 3 rfl dL_law_1070 rfl ?_
                                                          refine V_iconst (q := 1072) hC dL_law_1071 rfl ?_
                                                          refine V_iadd (q := 1073) hC dL_law_1072 rfl ?_
                                                          obtain ⟨g412, hf⟩ := gd_some hf
                                                          refine V_sld (q := 1074) hC hX hbl hxs g412 (Rg_wr _) dL_law_1073 rfl ?_
                                                          obtain ⟨r413, σ414, hc415, hf⟩ := cl_some hf
                                                          refine V_cvi (st := [iv r404]) (q := 1077) (x0 := r413) (σ0 := σ414) hC (sX7_storm l hG (hRx _) (hRx _) (hRx _) (hRx _) hs408 hc415) (cwV 4 hC.2.2.2.2.1 gL_law_X7_storm rfl rfl rfl (by decide +kernel) ⟨Nat.le_of_ble_eq_true rfl, Nat.le_of_ble_eq_true rfl⟩) ⟨_, rfl, rfl⟩ iD7 (fun _ => ⟨_, rfl⟩) rfl rfl (Nat.le_of_ble_eq_true rfl) dL_law_1074 rfl hce (fun hr416 hs417 => ?_)
                                                          refine V_icmp_eq (tgt := 1276) (q := 1080) hC hr407 hr416 dL_law_1077 (by decide) rfl (fun c418 => ?_) (fun c418 => ?_)
                                                          · replace hf := (if_pos c418).symm.trans hf
                                                            refine V_iinc (i := 3) (lv' := [(0, .ref b), (1, rf G 6 0), (2, rf G 7 0), (3, iv (wr (v3 + 6)))]) (q := 1279) hC 3 rfl [1, 2, 3, 0] (by decide) rfl dL_law_1276 rfl ?_
                                                            refine V_goto (tgt := 18) hC dL_law_1279 (by decide) ?_
                                                            refine V_lsub [0, 1, 2, 3] rfl ?_
                                                            exact ih hs417 (Rg_wr _) hf
                                                          · replace hf := (if_neg c418).symm.trans hf
                                                            refine V_iconst (q := 1081) hC dL_law_1080 rfl ?_
                                                            exact (law_no hf).elim
                                                        · replace hf := (if_neg c399).symm.trans hf
                                                          by_cases c419 : qand (xs v3.toNat) 63 = 26
                                                          · replace hf := (if_pos c419).symm.trans hf
                                                            refine V_tabIn (tgt := 1082) hC (Rg_qand _ _) dL_law_33 (by omega) (by omega) (by rw [c419]; rfl) (by decide) ?_
                                                            refine V_aload_n (k := 1) (q := 1083) hC 1 rfl dL_law_1082 rfl ?_
                                                            refine V_aload_n (k := 0) (q := 1084) hC 0 rfl dL_law_1083 rfl ?_
                                                            refine V_iload_n (k := 3) (q := 1085) hC 3 rfl dL_law_1084 rfl ?_
                                                            refine V_iconst (q := 1086) hC dL_law_1085 rfl ?_
                                                            refine V_iadd (q := 1087) hC dL_law_1086 rfl ?_
                                                            obtain ⟨g420, hf⟩ := gd_some hf
                                                            refine V_sld (q := 1088) hC hX hbl hxs g420 (Rg_wr _) dL_law_1087 rfl ?_
                                                            obtain ⟨r421, σ422, hc423, hf⟩ := cl_some hf
                                                            refine V_cvi (st := []) (q := 1091) (x0 := r421) (σ0 := σ422) hC (sX6_image l hG (hRx _) hs hc423) (cwV 1 hC.2.2.2.2.1 gL_law_X6_image rfl rfl rfl (by decide +kernel) ⟨Nat.le_of_ble_eq_true rfl, Nat.le_of_ble_eq_true rfl⟩) ⟨_, rfl, rfl⟩ iD6 (fun _ => ⟨_, rfl⟩) rfl rfl (Nat.le_of_ble_eq_true rfl) dL_law_1088 rfl hce (fun hr424 hs425 => ?_)
                                                            refine V_aload_n (k := 2) (q := 1092) hC 2 rfl dL_law_1091 rfl ?_
                                                            refine V_aload_n (k := 0) (q := 1093) hC 0 rfl dL_law_1092 rfl ?_
                                                            refine V_iload_n (k := 3) (q := 1094) hC 3 rfl dL_law_1093 rfl ?_
                                                            refine V_iconst (q := 1095) hC dL_law_1094 rfl ?_
                                                            refine V_iadd (q := 1096) hC dL_law_1095 rfl ?_
                                                            obtain ⟨g426, hf⟩ := gd_some hf
                                                            refine V_sld (q := 1097) hC hX hbl hxs g426 (Rg_wr _) dL_law_1096 rfl ?_
                                                            obtain ⟨r427, σ428, hc429, hf⟩ := cl_some hf
                                                            refine V_cvi (st := [iv r421]) (q := 1100) (x0 := r427) (σ0 := σ428) hC (sX7_image l hG (hRx _) hs425 hc429) (cwV 1 hC.2.2.2.2.1 gL_law_X7_image rfl rfl rfl (by decide +kernel) ⟨Nat.le_of_ble_eq_true rfl, Nat.le_of_ble_eq_true rfl⟩) ⟨_, rfl, rfl⟩ iD7 (fun _ => ⟨_, rfl⟩) rfl rfl (Nat.le_of_ble_eq_true rfl) dL_law_1097 rfl hce (fun hr430 hs431 => ?_)
                                                            refine V_icmp_eq (tgt := 1276) (q := 1103) hC hr424 hr430 dL_law_1100 (by decide) rfl (fun c432 => ?_) (fun c432 => ?_)
                                                            · replace hf := (if_pos c432).symm.trans hf
                                                              refine V_iinc (i := 3) (lv' := [(0, .ref b), (1, rf G 6 0), (2, rf G 7 0), (3, iv (wr (v3 + 6)))]) (q := 1279) hC 3 rfl [1, 2, 3, 0] (by decide) rfl dL_law_1276 rfl ?_
                                                              refine V_goto (tgt := 18) hC dL_law_1279 (by decide) ?_
                                                              refine V_lsub [0, 1, 2, 3] rfl ?_
                                                              exact ih hs431 (Rg_wr _) hf
                                                            · replace hf := (if_neg c432).symm.trans hf
                                                              refine V_iconst (q := 1104) hC dL_law_1103 rfl ?_
                                                              exact (law_no hf).elim
                                                          · replace hf := (if_neg c419).symm.trans hf
                                                            by_cases c433 : qand (xs v3.toNat) 63 = 27
                                                            · replace hf := (if_pos c433).symm.trans hf
                                                              refine V_tabIn (tgt := 1105) hC (Rg_qand _ _) dL_law_33 (by omega) (by omega) (by rw [c433]; rfl) (by decide) ?_
                                                              refine V_aload_n (k := 1) (q := 1106) hC 1 rfl dL_law_1105 rfl ?_
                                                              refine V_aload_n (k := 0) (q := 1107) hC 0 rfl dL_law_1106 rfl ?_
                                                              refine V_iload_n (k := 3) (q := 1108) hC 3 rfl dL_law_1107 rfl ?_
                                                              refine V_iconst (q := 1109) hC dL_law_1108 rfl ?_
                                                              refine V_iadd (q := 1110) hC dL_law_1109 rfl ?_
                                                              obtain ⟨g434, hf⟩ := gd_some hf
                                                              refine V_sld (q := 1111) hC hX hbl hxs g434 (Rg_wr _) dL_law_1110 rfl ?_
                                                              obtain ⟨r435, σ436, hc437, hf⟩ := cl_some hf
                                                              refine V_cvi (st := []) (q := 1114) (x0 := r435) (σ0 := σ436) hC (sX6_restore l hG (hRx _) hs hc437) (cwV 1 hC.2.2.2.2.1 gL_law_X6_restore rfl rfl rfl (by decide +kernel) ⟨Nat.le_of_ble_eq_true rfl, Nat.le_of_ble_eq_true rfl⟩) ⟨_, rfl, rfl⟩ iD6 (fun _ => ⟨_, rfl⟩) rfl rfl (Nat.le_of_ble_eq_true rfl) dL_law_1111 rfl hce (fun hr438 hs439 => ?_)
                                                              refine V_aload_n (k := 2) (q := 1115) hC 2 rfl dL_law_1114 rfl ?_
                                                              refine V_aload_n (k := 0) (q := 1116) hC 0 rfl dL_law_1115 rfl ?_
                                                              refine V_iload_n (k := 3) (q := 1117) hC 3 rfl dL_law_1116 rfl ?_
                                                              refine V_iconst (q := 1118) hC dL_law_1117 rfl ?_
                                                              refine V_iadd (q := 1119) hC dL_law_1118 rfl ?_
                                                              obtain ⟨g440, hf⟩ := gd_some hf
                                                              refine V_sld (q := 1120) hC hX hbl hxs g440 (Rg_wr _) dL_law_1119 rfl ?_
                                                              obtain ⟨r441, σ442, hc443, hf⟩ := cl_some hf
                                                              refine V_cvi (st := [iv r435]) (q := 1123) (x0 := r441) (σ0 := σ442) hC (sX7_restore l hG (hRx _) hs439 hc443) (cwV 1 hC.2.2.2.2.1 gL_law_X7_restore rfl rfl rfl (by decide +kernel) ⟨Nat.le_of_ble_eq_true rfl, Nat.le_of_ble_eq_true rfl⟩) ⟨_, rfl, rfl⟩ iD7 (fun _ => ⟨_, rfl⟩) rfl rfl (Nat.le_of_ble_eq_true rfl) dL_law_1120 rfl hce (fun hr444 hs445 => ?_)
                                                              refine V_icmp_eq (tgt := 1276) (q := 1126) hC hr438 hr444 dL_law_1123 (by decide) rfl (fun c446 => ?_) (fun c446 => ?_)
                                                              · replace hf := (if_pos c446).symm.trans hf
                                                                refine V_iinc (i := 3) (lv' := [(0, .ref b), (1, rf G 6 0), (2, rf G 7 0), (3, iv (wr (v3 + 6)))]) (q := 1279) hC 3 rfl [1, 2, 3, 0] (by decide) rfl dL_law_1276 rfl ?_
                                                                refine V_goto (tgt := 18) hC dL_law_1279 (by decide) ?_
                                                                refine V_lsub [0, 1, 2, 3] rfl ?_
                                                                exact ih hs445 (Rg_wr _) hf
                                                              · replace hf := (if_neg c446).symm.trans hf
                                                                refine V_iconst (q := 1127) hC dL_law_1126 rfl ?_
                                                                exact (law_no hf).elim
                                                            · replace hf := (if_neg c433).symm.trans hf
                                                              by_cases c447 : qand (xs v3.toNat) 63 = 28
                                                              · replace hf := (if_pos c447).symm.trans hf
                                                                refine V_tabIn (tgt := 1128) hC (Rg_qand _ _) dL_law_33 (by omega) (by omega) (by rw [c447]; rfl) (by decide) ?_
                                                                refine V_aload_n (k := 1) (q := 1129) hC 1 rfl dL_law_1128 rfl ?_
                                                                refine V_aload_n (k := 0) (q := 1130) hC 0 rfl dL_law_1129 rfl ?_
                                                                refine V_iload_n (k := 3) (q := 1131) hC 3 rfl dL_law_1130 rfl ?_
                                                                refine V_iconst (q := 1132) hC dL_law_1131 rfl ?_
                                                                refine V_iadd (q := 1133) hC dL_law_1132 rfl ?_
                                                                obtain ⟨g448, hf⟩ := gd_some hf
                                                                refine V_sld (q := 1134) hC hX hbl hxs g448 (Rg_wr _) dL_law_1133 rfl ?_
                                                                obtain ⟨r449, σ450, hc451, hf⟩ := cl_some hf
                                                                refine V_cvi (st := []) (q := 1137) (x0 := r449) (σ0 := σ450) hC (sX6_kind l hG (hRx _) hs hc451) (cwV 1 hC.2.2.2.2.1 gL_law_X6_kind rfl rfl rfl (by decide +kernel) ⟨Nat.le_of_ble_eq_true rfl, Nat.le_of_ble_eq_true rfl⟩) ⟨_, rfl, rfl⟩ iD6 (fun _ => ⟨_, rfl⟩) rfl rfl (Nat.le_of_ble_eq_true rfl) dL_law_1134 rfl hce (fun hr452 hs453 => ?_)
                                                                refine V_aload_n (k := 2) (q := 1138) hC 2 rfl dL_law_1137 rfl ?_
                                                                refine V_aload_n (k := 0) (q := 1139) hC 0 rfl dL_law_1138 rfl ?_
                                                                refine V_iload_n (k := 3) (q := 1140) hC 3 rfl dL_law_1139 rfl ?_
                                                                refine V_iconst (q := 1141) hC dL_law_1140 rfl ?_
                                                                refine V_iadd (q := 1142) hC dL_law_1141 rfl ?_
                                                                obtain ⟨g454, hf⟩ := gd_some hf
                                                                refine V_sld (q := 1143) hC hX hbl hxs g454 (Rg_wr _) dL_law_1142 rfl ?_
                                                                obtain ⟨r455, σ456, hc457, hf⟩ := cl_some hf
                                                                refine V_cvi (st := [iv r449]) (q := 1146) (x0 := r455) (σ0 := σ456) hC (sX7_kind l hG (hRx _) hs453 hc457) (cwV 1 hC.2.2.2.2.1 gL_law_X7_kind rfl rfl rfl (by decide +kernel) ⟨Nat.le_of_ble_eq_true rfl, Nat.le_of_ble_eq_true rfl⟩) ⟨_, rfl, rfl⟩ iD7 (fun _ => ⟨_, rfl⟩) rfl rfl (Nat.le_of_ble_eq_true rfl) dL_law_1143 rfl hce (fun hr458 hs459 => ?_)
                                                                refine V_icmp_eq (tgt := 1276) (q := 1149) hC hr452 hr458 dL_law_1146 (by decide) rfl (fun c460 => ?_) (fun c460 => ?_)
                                                                · replace hf := (if_pos c460).symm.trans hf
                                                                  refine V_iinc (i := 3) (lv' := [(0, .ref b), (1, rf G 6 0), (2, rf G 7 0), (3, iv (wr (v3 + 6)))]) (q := 1279) hC 3 rfl [1, 2, 3, 0] (by decide) rfl dL_law_1276 rfl ?_
                                                                  refine V_goto (tgt := 18) hC dL_law_1279 (by decide) ?_
                                                                  refine V_lsub [0, 1, 2, 3] rfl ?_
                                                                  exact ih hs459 (Rg_wr _) hf
                                                                · replace hf := (if_neg c460).symm.trans hf
                                                                  refine V_iconst (q := 1150) hC dL_law_1149 rfl ?_
                                                                  exact (law_no hf).elim
                                                              · replace hf := (if_neg c447).symm.trans hf
                                                                by_cases c461 : qand (xs v3.toNat) 63 = 29
                                                                · replace hf := (if_pos c461).symm.trans hf
                                                                  refine V_tabIn (tgt := 1151) hC (Rg_qand _ _) dL_law_33 (by omega) (by omega) (by rw [c461]; rfl) (by decide) ?_
                                                                  refine V_aload_n (k := 1) (q := 1152) hC 1 rfl dL_law_1151 rfl ?_
                                                                  refine V_aload_n (k := 0) (q := 1153) hC 0 rfl dL_law_1152 rfl ?_
                                                                  refine V_iload_n (k := 3) (q := 1154) hC 3 rfl dL_law_1153 rfl ?_
                                                                  refine V_iconst (q := 1155) hC dL_law_1154 rfl ?_
                                                                  refine V_iadd (q := 1156) hC dL_law_1155 rfl ?_
                                                                  obtain ⟨g462, hf⟩ := gd_some hf
                                                                  refine V_sld (q := 1157) hC hX hbl hxs g462 (Rg_wr _) dL_law_1156 rfl ?_
                                                                  refine V_aload_n (k := 0) (q := 1158) hC 0 rfl dL_law_1157 rfl ?_
                                                                  refine V_iload_n (k := 3) (q := 1159) hC 3 rfl dL_law_1158 rfl ?_
                                                                  refine V_iconst (q := 1160) hC dL_law_1159 rfl ?_
                                                                  refine V_iadd (q := 1161) hC dL_law_1160 rfl ?_
                                                                  obtain ⟨g463, hf⟩ := gd_some hf
                                                                  refine V_sld (q := 1162) hC hX hbl hxs g463 (Rg_wr _) dL_law_1161 rfl ?_
                                                                  obtain ⟨r464, σ465, hc466, hf⟩ := cl_some hf
                                                                  refine V_cvi (st := []) (q := 1165) (x0 := r464) (σ0 := σ465) hC (sX6_as l hG (hRx _) (hRx _) hs hc466) (cwV 2 hC.2.2.2.2.1 gL_law_X6_as rfl rfl rfl (by decide +kernel) ⟨Nat.le_of_ble_eq_true rfl, Nat.le_of_ble_eq_true rfl⟩) ⟨_, rfl, rfl⟩ iD6 (fun _ => ⟨_, rfl⟩) rfl rfl (Nat.le_of_ble_eq_true rfl) dL_law_1162 rfl hce (fun hr467 hs468 => ?_)
                                                                  refine V_aload_n (k := 2) (q := 1166) hC 2 rfl dL_law_1165 rfl ?_
                                                                  refine V_aload_n (k := 0) (q := 1167) hC 0 rfl dL_law_1166 rfl ?_
                                                                  refine V_iload_n (k := 3) (q := 1168) hC 3 rfl dL_law_1167 rfl ?_
                                                                  refine V_iconst (q := 1169) hC dL_law_1168 rfl ?_
                                                                  refine V_iadd (q := 1170) hC dL_law_1169 rfl ?_
                                                                  obtain ⟨g469, hf⟩ := gd_some hf
                                                                  refine V_sld (q := 1171) hC hX hbl hxs g469 (Rg_wr _) dL_law_1170 rfl ?_
                                                                  refine V_aload_n (k := 0) (q := 1172) hC 0 rfl dL_law_1171 rfl ?_
                                                                  refine V_iload_n (k := 3) (q := 1173) hC 3 rfl dL_law_1172 rfl ?_
                                                                  refine V_iconst (q := 1174) hC dL_law_1173 rfl ?_
                                                                  refine V_iadd (q := 1175) hC dL_law_1174 rfl ?_
                                                                  obtain ⟨g470, hf⟩ := gd_some hf
                                                                  refine V_sld (q := 1176) hC hX hbl hxs g470 (Rg_wr _) dL_law_1175 rfl ?_
                                                                  obtain ⟨r471, σ472, hc473, hf⟩ := cl_some hf
                                                                  refine V_cvi (st := [iv r464]) (q := 1179) (x0 := r471) (σ0 := σ472) hC (sX7_as l hG (hRx _) (hRx _) hs468 hc473) (cwV 2 hC.2.2.2.2.1 gL_law_X7_as rfl rfl rfl (by decide +kernel) ⟨Nat.le_of_ble_eq_true rfl, Nat.le_of_ble_eq_true rfl⟩) ⟨_, rfl, rfl⟩ iD7 (fun _ => ⟨_, rfl⟩) rfl rfl (Nat.le_of_ble_eq_true rfl) dL_law_1176 rfl hce (fun hr474 hs475 => ?_)
                                                                  refine V_icmp_eq (tgt := 1276) (q := 1182) hC hr467 hr474 dL_law_1179 (by decide) rfl (fun c476 => ?_) (fun c476 => ?_)
                                                                  · replace hf := (if_pos c476).symm.trans hf
                                                                    refine V_iinc (i := 3) (lv' := [(0, .ref b), (1, rf G 6 0), (2, rf G 7 0), (3, iv (wr (v3 + 6)))]) (q := 1279) hC 3 rfl [1, 2, 3, 0] (by decide) rfl dL_law_1276 rfl ?_
                                                                    refine V_goto (tgt := 18) hC dL_law_1279 (by decide) ?_
                                                                    refine V_lsub [0, 1, 2, 3] rfl ?_
                                                                    exact ih hs475 (Rg_wr _) hf
                                                                  · replace hf := (if_neg c476).symm.trans hf
                                                                    refine V_iconst (q := 1183) hC dL_law_1182 rfl ?_
                                                                    exact (law_no hf).elim
                                                                · replace hf := (if_neg c461).symm.trans hf
                                                                  by_cases c477 : qand (xs v3.toNat) 63 = 30
                                                                  · replace hf := (if_pos c477).symm.trans hf
                                                                    refine V_tabIn (tgt := 1184) hC (Rg_qand _ _) dL_law_33 (by omega) (by omega) (by rw [c477]; rfl) (by decide) ?_
                                                                    refine V_aload_n (k := 1) (q := 1185) hC 1 rfl dL_law_1184 rfl ?_
                                                                    refine V_aload_n (k := 0) (q := 1186) hC 0 rfl dL_law_1185 rfl ?_
                                                                    refine V_iload_n (k := 3) (q := 1187) hC 3 rfl dL_law_1186 rfl ?_
                                                                    refine V_iconst (q := 1188) hC dL_law_1187 rfl ?_
                                                                    refine V_iadd (q := 1189) hC dL_law_1188 rfl ?_
                                                                    obtain ⟨g478, hf⟩ := gd_some hf
                                                                    refine V_sld (q := 1190) hC hX hbl hxs g478 (Rg_wr _) dL_law_1189 rfl ?_
                                                                    refine V_aload_n (k := 0) (q := 1191) hC 0 rfl dL_law_1190 rfl ?_
                                                                    refine V_iload_n (k := 3) (q := 1192) hC 3 rfl dL_law_1191 rfl ?_
                                                                    refine V_iconst (q := 1193) hC dL_law_1192 rfl ?_
                                                                    refine V_iadd (q := 1194) hC dL_law_1193 rfl ?_
                                                                    obtain ⟨g479, hf⟩ := gd_some hf
                                                                    refine V_sld (q := 1195) hC hX hbl hxs g479 (Rg_wr _) dL_law_1194 rfl ?_
                                                                    obtain ⟨r480, σ481, hc482, hf⟩ := cl_some hf
                                                                    refine V_cvi (st := []) (q := 1198) (x0 := r480) (σ0 := σ481) hC (sX6_ask l hG (hRx _) (hRx _) hs hc482) (cwV 2 hC.2.2.2.2.1 gL_law_X6_ask rfl rfl rfl (by decide +kernel) ⟨Nat.le_of_ble_eq_true rfl, Nat.le_of_ble_eq_true rfl⟩) ⟨_, rfl, rfl⟩ iD6 (fun _ => ⟨_, rfl⟩) rfl rfl (Nat.le_of_ble_eq_true rfl) dL_law_1195 rfl hce (fun hr483 hs484 => ?_)
                                                                    refine V_aload_n (k := 2) (q := 1199) hC 2 rfl dL_law_1198 rfl ?_
                                                                    refine V_aload_n (k := 0) (q := 1200) hC 0 rfl dL_law_1199 rfl ?_
                                                                    refine V_iload_n (k := 3) (q := 1201) hC 3 rfl dL_law_1200 rfl ?_
                                                                    refine V_iconst (q := 1202) hC dL_law_1201 rfl ?_
                                                                    refine V_iadd (q := 1203) hC dL_law_1202 rfl ?_
                                                                    obtain ⟨g485, hf⟩ := gd_some hf
                                                                    refine V_sld (q := 1204) hC hX hbl hxs g485 (Rg_wr _) dL_law_1203 rfl ?_
                                                                    refine V_aload_n (k := 0) (q := 1205) hC 0 rfl dL_law_1204 rfl ?_
                                                                    refine V_iload_n (k := 3) (q := 1206) hC 3 rfl dL_law_1205 rfl ?_
                                                                    refine V_iconst (q := 1207) hC dL_law_1206 rfl ?_
                                                                    refine V_iadd (q := 1208) hC dL_law_1207 rfl ?_
                                                                    obtain ⟨g486, hf⟩ := gd_some hf
                                                                    refine V_sld (q := 1209) hC hX hbl hxs g486 (Rg_wr _) dL_law_1208 rfl ?_
                                                                    obtain ⟨r487, σ488, hc489, hf⟩ := cl_some hf
                                                                    refine V_cvi (st := [iv r480]) (q := 1212) (x0 := r487) (σ0 := σ488) hC (sX7_ask l hG (hRx _) (hRx _) hs484 hc489) (cwV 2 hC.2.2.2.2.1 gL_law_X7_ask rfl rfl rfl (by decide +kernel) ⟨Nat.le_of_ble_eq_true rfl, Nat.le_of_ble_eq_true rfl⟩) ⟨_, rfl, rfl⟩ iD7 (fun _ => ⟨_, rfl⟩) rfl rfl (Nat.le_of_ble_eq_true rfl) dL_law_1209 rfl hce (fun hr490 hs491 => ?_)
                                                                    refine V_icmp_eq (tgt := 1276) (q := 1215) hC hr483 hr490 dL_law_1212 (by decide) rfl (fun c492 => ?_) (fun c492 => ?_)
                                                                    · replace hf := (if_pos c492).symm.trans hf
                                                                      refine V_iinc (i := 3) (lv' := [(0, .ref b), (1, rf G 6 0), (2, rf G 7 0), (3, iv (wr (v3 + 6)))]) (q := 1279) hC 3 rfl [1, 2, 3, 0] (by decide) rfl dL_law_1276 rfl ?_
                                                                      refine V_goto (tgt := 18) hC dL_law_1279 (by decide) ?_
                                                                      refine V_lsub [0, 1, 2, 3] rfl ?_
                                                                      exact ih hs491 (Rg_wr _) hf
                                                                    · replace hf := (if_neg c492).symm.trans hf
                                                                      refine V_iconst (q := 1216) hC dL_law_1215 rfl ?_
                                                                      exact (law_no hf).elim
                                                                  · replace hf := (if_neg c477).symm.trans hf
                                                                    by_cases c493 : qand (xs v3.toNat) 63 = 31
                                                                    · replace hf := (if_pos c493).symm.trans hf
                                                                      refine V_tabIn (tgt := 1217) hC (Rg_qand _ _) dL_law_33 (by omega) (by omega) (by rw [c493]; rfl) (by decide) ?_
                                                                      refine V_aload_n (k := 1) (q := 1218) hC 1 rfl dL_law_1217 rfl ?_
                                                                      refine V_aload_n (k := 0) (q := 1219) hC 0 rfl dL_law_1218 rfl ?_
                                                                      refine V_iload_n (k := 3) (q := 1220) hC 3 rfl dL_law_1219 rfl ?_
                                                                      refine V_iconst (q := 1221) hC dL_law_1220 rfl ?_
                                                                      refine V_iadd (q := 1222) hC dL_law_1221 rfl ?_
                                                                      obtain ⟨g494, hf⟩ := gd_some hf
                                                                      refine V_sld (q := 1223) hC hX hbl hxs g494 (Rg_wr _) dL_law_1222 rfl ?_
                                                                      obtain ⟨r495, σ496, hc497, hf⟩ := cl_some hf
                                                                      refine V_cvi (st := []) (q := 1226) (x0 := r495) (σ0 := σ496) hC (sX6_trace l hG (hRx _) hs hc497) (cwV 1 hC.2.2.2.2.1 gL_law_X6_trace rfl rfl rfl (by decide +kernel) ⟨Nat.le_of_ble_eq_true rfl, Nat.le_of_ble_eq_true rfl⟩) ⟨_, rfl, rfl⟩ iD6 (fun _ => ⟨_, rfl⟩) rfl rfl (Nat.le_of_ble_eq_true rfl) dL_law_1223 rfl hce (fun hr498 hs499 => ?_)
                                                                      refine V_aload_n (k := 2) (q := 1227) hC 2 rfl dL_law_1226 rfl ?_
                                                                      refine V_aload_n (k := 0) (q := 1228) hC 0 rfl dL_law_1227 rfl ?_
                                                                      refine V_iload_n (k := 3) (q := 1229) hC 3 rfl dL_law_1228 rfl ?_
                                                                      refine V_iconst (q := 1230) hC dL_law_1229 rfl ?_
                                                                      refine V_iadd (q := 1231) hC dL_law_1230 rfl ?_
                                                                      obtain ⟨g500, hf⟩ := gd_some hf
                                                                      refine V_sld (q := 1232) hC hX hbl hxs g500 (Rg_wr _) dL_law_1231 rfl ?_
                                                                      obtain ⟨r501, σ502, hc503, hf⟩ := cl_some hf
                                                                      refine V_cvi (st := [iv r495]) (q := 1235) (x0 := r501) (σ0 := σ502) hC (sX7_trace l hG (hRx _) hs499 hc503) (cwV 1 hC.2.2.2.2.1 gL_law_X7_trace rfl rfl rfl (by decide +kernel) ⟨Nat.le_of_ble_eq_true rfl, Nat.le_of_ble_eq_true rfl⟩) ⟨_, rfl, rfl⟩ iD7 (fun _ => ⟨_, rfl⟩) rfl rfl (Nat.le_of_ble_eq_true rfl) dL_law_1232 rfl hce (fun hr504 hs505 => ?_)
                                                                      refine V_icmp_eq (tgt := 1276) (q := 1238) hC hr498 hr504 dL_law_1235 (by decide) rfl (fun c506 => ?_) (fun c506 => ?_)
                                                                      · replace hf := (if_pos c506).symm.trans hf
                                                                        refine V_iinc (i := 3) (lv' := [(0, .ref b), (1, rf G 6 0), (2, rf G 7 0), (3, iv (wr (v3 + 6)))]) (q := 1279) hC 3 rfl [1, 2, 3, 0] (by decide) rfl dL_law_1276 rfl ?_
                                                                        refine V_goto (tgt := 18) hC dL_law_1279 (by decide) ?_
                                                                        refine V_lsub [0, 1, 2, 3] rfl ?_
                                                                        exact ih hs505 (Rg_wr _) hf
                                                                      · replace hf := (if_neg c506).symm.trans hf
                                                                        refine V_iconst (q := 1239) hC dL_law_1238 rfl ?_
                                                                        exact (law_no hf).elim
                                                                    · replace hf := (if_neg c493).symm.trans hf
                                                                      by_cases c507 : qand (xs v3.toNat) 63 = 32
                                                                      · replace hf := (if_pos c507).symm.trans hf
                                                                        refine V_tabIn (tgt := 1240) hC (Rg_qand _ _) dL_law_33 (by omega) (by omega) (by rw [c507]; rfl) (by decide) ?_
                                                                        refine V_aload_n (k := 1) (q := 1241) hC 1 rfl dL_law_1240 rfl ?_
                                                                        refine V_aload_n (k := 0) (q := 1242) hC 0 rfl dL_law_1241 rfl ?_
                                                                        refine V_iload_n (k := 3) (q := 1243) hC 3 rfl dL_law_1242 rfl ?_
                                                                        refine V_iconst (q := 1244) hC dL_law_1243 rfl ?_
                                                                        refine V_iadd (q := 1245) hC dL_law_1244 rfl ?_
                                                                        obtain ⟨g508, hf⟩ := gd_some hf
                                                                        refine V_sld (q := 1246) hC hX hbl hxs g508 (Rg_wr _) dL_law_1245 rfl ?_
                                                                        obtain ⟨r509, σ510, hc511, hf⟩ := cl_some hf
                                                                        refine V_cvi (st := []) (q := 1249) (x0 := r509) (σ0 := σ510) hC (sX6_count l hG (hRx _) hs hc511) (cwV 1 hC.2.2.2.2.1 gL_law_X6_count rfl rfl rfl (by decide +kernel) ⟨Nat.le_of_ble_eq_true rfl, Nat.le_of_ble_eq_true rfl⟩) ⟨_, rfl, rfl⟩ iD6 (fun _ => ⟨_, rfl⟩) rfl rfl (Nat.le_of_ble_eq_true rfl) dL_law_1246 rfl hce (fun hr512 hs513 => ?_)
                                                                        refine V_aload_n (k := 2) (q := 1250) hC 2 rfl dL_law_1249 rfl ?_
                                                                        refine V_aload_n (k := 0) (q := 1251) hC 0 rfl dL_law_1250 rfl ?_
                                                                        refine V_iload_n (k := 3) (q := 1252) hC 3 rfl dL_law_1251 rfl ?_
                                                                        refine V_iconst (q := 1253) hC dL_law_1252 rfl ?_
                                                                        refine V_iadd (q := 1254) hC dL_law_1253 rfl ?_
                                                                        obtain ⟨g514, hf⟩ := gd_some hf
                                                                        refine V_sld (q := 1255) hC hX hbl hxs g514 (Rg_wr _) dL_law_1254 rfl ?_
                                                                        obtain ⟨r515, σ516, hc517, hf⟩ := cl_some hf
                                                                        refine V_cvi (st := [iv r509]) (q := 1258) (x0 := r515) (σ0 := σ516) hC (sX7_count l hG (hRx _) hs513 hc517) (cwV 1 hC.2.2.2.2.1 gL_law_X7_count rfl rfl rfl (by decide +kernel) ⟨Nat.le_of_ble_eq_true rfl, Nat.le_of_ble_eq_true rfl⟩) ⟨_, rfl, rfl⟩ iD7 (fun _ => ⟨_, rfl⟩) rfl rfl (Nat.le_of_ble_eq_true rfl) dL_law_1255 rfl hce (fun hr518 hs519 => ?_)
                                                                        refine V_icmp_eq (tgt := 1276) (q := 1261) hC hr512 hr518 dL_law_1258 (by decide) rfl (fun c520 => ?_) (fun c520 => ?_)
                                                                        · replace hf := (if_pos c520).symm.trans hf
                                                                          refine V_iinc (i := 3) (lv' := [(0, .ref b), (1, rf G 6 0), (2, rf G 7 0), (3, iv (wr (v3 + 6)))]) (q := 1279) hC 3 rfl [1, 2, 3, 0] (by decide) rfl dL_law_1276 rfl ?_
                                                                          refine V_goto (tgt := 18) hC dL_law_1279 (by decide) ?_
                                                                          refine V_lsub [0, 1, 2, 3] rfl ?_
                                                                          exact ih hs519 (Rg_wr _) hf
                                                                        · replace hf := (if_neg c520).symm.trans hf
                                                                          refine V_iconst (q := 1262) hC dL_law_1261 rfl ?_
                                                                          exact (law_no hf).elim
                                                                      · replace hf := (if_neg c507).symm.trans hf
                                                                        by_cases c521 : qand (xs v3.toNat) 63 = 33
                                                                        · replace hf := (if_pos c521).symm.trans hf
                                                                          refine V_tabIn (tgt := 1263) hC (Rg_qand _ _) dL_law_33 (by omega) (by omega) (by rw [c521]; rfl) (by decide) ?_
                                                                          refine V_aload_n (k := 1) (q := 1264) hC 1 rfl dL_law_1263 rfl ?_
                                                                          refine V_cvi (st := []) (q := 1267) hC (sX6_status l hG  hs) (cwV 0 hC.2.2.2.2.1 gL_law_X6_status rfl rfl rfl (by decide +kernel) ⟨Nat.le_of_ble_eq_true rfl, Nat.le_of_ble_eq_true rfl⟩) ⟨_, rfl, rfl⟩ iD6 (fun _ => ⟨_, rfl⟩) rfl rfl (Nat.le_of_ble_eq_true rfl) dL_law_1264 rfl hce (fun hr522 _ => ?_)
                                                                          refine V_aload_n (k := 2) (q := 1268) hC 2 rfl dL_law_1267 rfl ?_
                                                                          refine V_cvi (st := [iv (fX6_status σ)]) (q := 1271) hC (sX7_status l hG  hs) (cwV 0 hC.2.2.2.2.1 gL_law_X7_status rfl rfl rfl (by decide +kernel) ⟨Nat.le_of_ble_eq_true rfl, Nat.le_of_ble_eq_true rfl⟩) ⟨_, rfl, rfl⟩ iD7 (fun _ => ⟨_, rfl⟩) rfl rfl (Nat.le_of_ble_eq_true rfl) dL_law_1268 rfl hce (fun hr523 _ => ?_)
                                                                          refine V_icmp_eq (tgt := 1276) (q := 1274) hC hr522 hr523 dL_law_1271 (by decide) rfl (fun c524 => ?_) (fun c524 => ?_)
                                                                          · replace hf := (if_pos c524).symm.trans hf
                                                                            refine V_iinc (i := 3) (lv' := [(0, .ref b), (1, rf G 6 0), (2, rf G 7 0), (3, iv (wr (v3 + 6)))]) (q := 1279) hC 3 rfl [1, 2, 3, 0] (by decide) rfl dL_law_1276 rfl ?_
                                                                            refine V_goto (tgt := 18) hC dL_law_1279 (by decide) ?_
                                                                            refine V_lsub [0, 1, 2, 3] rfl ?_
                                                                            exact ih hs (Rg_wr _) hf
                                                                          · replace hf := (if_neg c524).symm.trans hf
                                                                            refine V_iconst (q := 1275) hC dL_law_1274 rfl ?_
                                                                            exact (law_no hf).elim
                                                                        · replace hf := (if_neg c521).symm.trans hf
                                                                          refine V_tabOut (tgt := 1276) hC (Rg_qand _ _) dL_law_33 (by omega) (by decide) ?_
                                                                          refine V_iinc (i := 3) (lv' := [(0, .ref b), (1, rf G 6 0), (2, rf G 7 0), (3, iv (wr (v3 + 6)))]) (q := 1279) hC 3 rfl [1, 2, 3, 0] (by decide) rfl dL_law_1276 rfl ?_
                                                                          refine V_goto (tgt := 18) hC dL_law_1279 (by decide) ?_
                                                                          refine V_lsub [0, 1, 2, 3] rfl ?_
                                                                          exact ih hs (Rg_wr _) hf
