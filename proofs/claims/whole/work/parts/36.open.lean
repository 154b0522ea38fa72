set_option maxRecDepth 100000 in
set_option maxHeartbeats 4000000 in
theorem whole_open {p : Program} {e : Env} {s : State} {m : MethodId} {below : List Frame} {meth : Method} {c : Code} (l : Launch) (hflags : l.flags = flags0) {b L : Nat} {xs : Nat → Int32} (hL : L ≤ 384) (C0 : lw_At p s m meth c b L xs) (hpure : ∀ zs : Nat → Int, (∀ k, Rg (zs k)) → ∃ σ0, lL_law FU σI zs L 0 = some (1, σ0)) : W p l e room_1 s m #[Value.ref b] below meth c s.heap [] 0 0 (lw_Z below #[Value.ref b] s) (entryFrame m ([Value.ref b] : List Value).toArray 4) := by
  obtain ⟨hx, hb, hr, hml, hown, hts0, hX, hbl, hlocks, hgv⟩ := id C0
  have hts : ∀ w ∈ wsL_law, w.before #[Value.ref b] s = true := fun w h => hts0 w (wsL_law_in w h)
  have hA : ∀ q : Nat, s.heap.size ≤ q → (fun q : Nat => s.heap.size ≤ q) q := fun _ h => h
  have hnA : ∀ q : Nat, q < s.heap.size → ¬ (fun q : Nat => s.heap.size ≤ q) q := fun q h => Nat.not_le.mpr h
  obtain ⟨c0, iS0, hKn0⟩ := u_known (C := RX0) (T := TX0) (N := 2) (n := 2) hts0 inX0 (hts0 (.instantiable RX0 2) (by decide +kernel))
  obtain ⟨c1, iS1, hKn1⟩ := u_known (C := RX1) (T := TX1) (N := 3) (n := 3) hts0 inX1 (hts0 (.instantiable RX1 3) (by decide +kernel))
  obtain ⟨c2, iS2, hKn2⟩ := u_known (C := RX2) (T := TX2) (N := 1) (n := 1) hts0 inX2 (hts0 (.instantiable RX2 1) (by decide +kernel))
  obtain ⟨c3, iS3, hKn3⟩ := u_known (C := RX3) (T := TX3) (N := 4) (n := 4) hts0 inX3 (hts0 (.instantiable RX3 4) (by decide +kernel))
  obtain ⟨c4, iS4, hKn4⟩ := u_known (C := RX4) (T := TX4) (N := 5) (n := 5) hts0 inX4 (hts0 (.instantiable RX4 5) (by decide +kernel))
  obtain ⟨c5, iS5, hKn5⟩ := u_known (C := RX5) (T := TX5) (N := 12) (n := 12) hts0 inX5 (hts0 (.instantiable RX5 12) (by decide +kernel))
  obtain ⟨c6, iS6, hKn6⟩ := u_known (C := RX6) (T := TX6) (N := 10) (n := 10) hts0 inX6 (hts0 (.instantiable RX6 10) (by decide +kernel))
  obtain ⟨c7, iS7, hKn7⟩ := u_known (C := RX7) (T := TX7) (N := 22) (n := 22) hts0 inX7 (hts0 (.instantiable RX7 22) (by decide +kernel))
  obtain ⟨D, hKc⟩ : ∃ D : va_G, ∀ (k : Nat) (q : vw_C), vwCl[k]? = some q → u_Kn s q.1 q.2.1 q.2.2 (D.1 k) (D.2 k) := by
    refine ⟨(fun k => if k = 0 then c0 else if k = 1 then c1 else if k = 2 then c2 else if k = 3 then c3 else if k = 4 then c4 else if k = 5 then c5 else if k = 6 then c6 else c7, fun k => if k = 0 then iS0 else if k = 1 then iS1 else if k = 2 then iS2 else if k = 3 then iS3 else if k = 4 then iS4 else if k = 5 then iS5 else if k = 6 then iS6 else iS7), ?_⟩
    intro k q hq
    match k, hq with
    | 0, hq => cases hq; exact hKn0
    | 1, hq => cases hq; exact hKn1
    | 2, hq => cases hq; exact hKn2
    | 3, hq => cases hq; exact hKn3
    | 4, hq => cases hq; exact hKn4
    | 5, hq => cases hq; exact hKn5
    | 6, hq => cases hq; exact hKn6
    | 7, hq => cases hq; exact hKn7
    | k + 8, hq => simp [vwCl] at hq
  obtain ⟨cI, kI, pI, eI1, eI2, eI3⟩ := Cond.arrayClass_spec (show (Cond.arrayClass .int).before #[Value.ref b] s = true from hts0 (.arrayClass .int) (by decide +kernel))
  obtain ⟨cZ, kZ, pZ, eZ1, eZ2, eZ3⟩ := Cond.arrayClass_spec (show (Cond.arrayClass .boolean).before #[Value.ref b] s = true from hts0 (.arrayClass .boolean) (by decide +kernel))
  have hK : va_K D vwCl [(cI, .int), (cZ, .boolean)] s := by
    refine ⟨hKc, fun k q hk => ?_⟩
    match k, hk with
    | 0, hk => cases hk; exact ⟨fun n z => ⟨fun k h => (by cases h), kI, eI2, pI, eI3⟩, eI1⟩
    | 1, hk => cases hk; exact ⟨fun n z => ⟨fun k h => (by cases h), kZ, eZ2, pZ, eZ3⟩, eZ1⟩
    | k + 2, hk => simp at hk
  have hnl : ∀ q ∈ nsts, Cond.methodLinkNest q.1 q.2.1 q.2.2 "BarkNames" ∈ lw_tbl := by decide +kernel
  have hGN : GN D cI cZ s := ⟨hK, fun q hq => va_Nw.of rfl (hts0 _ (hnl q hq)), va_AO.of (hts0 (.arrayOver (.object "BarkNames$Row")) (by decide +kernel)), va_AO.of (hts0 (.arrayOver (.object "BarkNames$Wood")) (by decide +kernel))⟩
  have hfl := flat_of_before _ hgv
  have hel : ∀ j : Nat, j < 6 → (Term.elem (.static "BarkNames" "IS_TOO" "[I") (.int (Int32.ofNat j))).eval #[Value.ref b] s none [] s = some (iv (isToo j)) := by
    intro j hj
    rcases (show j = 0 ∨ j = 1 ∨ j = 2 ∨ j = 3 ∨ j = 4 ∨ j = 5 by omega) with rfl | rfl | rfl | rfl | rfl | rfl
    · exact va_eqt (hfl (.eq (.elem (.static "BarkNames" "IS_TOO" "[I") (.int 0)) (.int (-1))) (by decide +kernel))
    · exact va_eqt (hfl (.eq (.elem (.static "BarkNames" "IS_TOO" "[I") (.int 1)) (.int 0)) (by decide +kernel))
    · exact va_eqt (hfl (.eq (.elem (.static "BarkNames" "IS_TOO" "[I") (.int 2)) (.int 1)) (by decide +kernel))
    · exact va_eqt (hfl (.eq (.elem (.static "BarkNames" "IS_TOO" "[I") (.int 3)) (.int 1)) (by decide +kernel))
    · exact va_eqt (hfl (.eq (.elem (.static "BarkNames" "IS_TOO" "[I") (.int 4)) (.int 0)) (by decide +kernel))
    · exact va_eqt (hfl (.eq (.elem (.static "BarkNames" "IS_TOO" "[I") (.int 5)) (.int 4)) (by decide +kernel))
  obtain ⟨tb, htb, hT⟩ := va_Tof (N := 6) (f := fun k => iv (isToo k)) (A := fun q : Nat => s.heap.size ≤ q) (by decide) (hfl (.arrayOf (.static "BarkNames" "IS_TOO" "[I") .int) (by decide +kernel)) (va_eqt (hfl (.eq (.length (.static "BarkNames" "IS_TOO" "[I")) (.int 6)) (by decide +kernel))) hel hnA
  have hZ := va_Zof (A := fun q : Nat => s.heap.size ≤ q) (hts0 (.laysStatic "BarkNames" "IS_TOO" "[I") (by decide +kernel)) (hts0 (.initialized "BarkNames") (by decide +kernel)) htb hnA
  have hS : va_S (fun q : Nat => s.heap.size ≤ q) s.heap s.heap [] := va_S.rf
  have hP : va_P D vwCl ([] : va_W) s.heap := fun k q h => by simp at h
  have hD : va_D (fun q : Nat => s.heap.size ≤ q) ([] : va_W) := ⟨fun i j p q h => by simp at h, fun k q h => by simp at h⟩
  have hl := lv_entry ([.ref b]) (n := 4) (Nat.le_of_ble_eq_true rfl)
  rw [lg_entry_eq]
  generalize (lg_sl ([.ref b]) ++ List.replicate (4 - (lg_sl ([.ref b])).length) Slot.unset).toArray = ls at hl ⊢
  have hl : lv_has ls 4 [(0, .ref b)] := hl
  have h_1 : 0 + 1 ≤ room_1.cells := Nat.le_of_ble_eq_true rfl
  have h_2 : 0 + 10 ≤ room_1.slots := Nat.le_of_ble_eq_true rfl
  refine va_new (ci := 6) (fs := [.null, .null, .null, .null, .null, .null, .null, .null, .int 0, .int 0]) (C := RX6) (T := TX6) (N := 10) hx hb hts0 inX6 tyX6 tyX6_ok hown (hts0 (.classLink R_law 7 RX6) (by decide +kernel)) (hts0 (.instantiable RX6 10) (by decide +kernel)) (hts0 (.initialized RX6) (by decide +kernel)) hK hP hD hS hA rfl (fun j hj => by rcases (show j = 0 ∨ j = 1 ∨ j = 2 ∨ j = 3 ∨ j = 4 ∨ j = 5 ∨ j = 6 ∨ j = 7 ∨ j = 8 ∨ j = 9 by omega) with rfl | rfl | rfl | rfl | rfl | rfl | rfl | rfl | rfl | rfl <;> rfl) h_1 h_2 dL_law_0 (fun q6 H hP hD hS => ?_)
  refine W.widen (k := 1) (n := 10) (by decide) (by decide) ?_
  refine lv_dup hx hb dL_law_3 rfl ?_
  have hkc : 1 + 250 ≤ room_1.cells := Nat.le_of_ble_eq_true rfl
  have hks : 10 + 2129 ≤ room_1.slots := Nat.le_of_ble_eq_true rfl
  have hFc := va_free1 hD hS hA
  refine va_callv (va_runI (As := []) (rest := [.ref q6]) ⟨hx, hb, hml, hown, hts⟩ (ctX6_init l D cI cZ q6 H.size) (cwI 0 hts gL_law_X6_init rfl rfl rfl (hts0 (.initialized RX6) (by decide +kernel)) (hts0 (.methodLink R_law 9 yX6_init) (by decide +kernel)) (hts0 (.instanceMethod yX6_init) (by decide +kernel)) rfl (by decide +kernel) ⟨Nat.le_of_ble_eq_true rfl, Nat.le_of_ble_eq_true rfl⟩) ⟨PcN.blind, fun U hU hW => ⟨rfl, by rw [hU], by rw [hU]; exact va_P1 hP, hGN.moved hW⟩⟩ rfl rfl hl.1 rfl (lv_room (Nat.le_of_ble_eq_true rfl)) dL_law_4 ⟨hkc, hks⟩) hS (fun q _ h => hFc q h) hFc (fun u6 t H1 locs ht hvm hw hB hz1 hk1 hS => ?_)
  refine W.widen (k := 251) (n := 2139) (by decide) (by decide) ?_
  obtain ⟨cR, cW, g1, g2, g3⟩ := u6
  obtain ⟨hP1, hD1, hK1⟩ := hB
  rw [ht] at hP1
  have hK1 := va_K.moved hvm.symm hK1
  obtain ⟨hP, hD⟩ := va_join1 (X := []) hP hD hk1 hFc hP1 hD1
  generalize H1 = H at hP hS ⊢
  have hP : va_P D vwCl (wd6 cI cR cW q6 g1 g2 g3) H := hP
  have hD : va_D (fun q : Nat => s.heap.size ≤ q) (wd6 cI cR cW q6 g1 g2 g3) := hD
  refine lv_astore_n (lv' := [(1, .ref q6), (0, .ref b)]) hx hb dL_law_7 rfl hl (by decide) rfl (fun ls hl => ?_)
  have h_1 : 251 + 1 ≤ room_1.cells := Nat.le_of_ble_eq_true rfl
  have h_2 : 2139 + 22 ≤ room_1.slots := Nat.le_of_ble_eq_true rfl
  refine va_new (ci := 7) (fs := [.null, .null, .null, .null, .int 0, .null, .int 0, .int 0, .int 0, .int 0, .int 0, .int 0, .int 0, .null, .null, .null, .int 0, .null, .null, .null, .null, .int 0]) (C := RX7) (T := TX7) (N := 22) hx hb hts0 inX7 tyX7 tyX7_ok hown (hts0 (.classLink R_law 10 RX7) (by decide +kernel)) (hts0 (.instantiable RX7 22) (by decide +kernel)) (hts0 (.initialized RX7) (by decide +kernel)) hK hP hD hS hA rfl (fun j hj => by rcases (show j = 0 ∨ j = 1 ∨ j = 2 ∨ j = 3 ∨ j = 4 ∨ j = 5 ∨ j = 6 ∨ j = 7 ∨ j = 8 ∨ j = 9 ∨ j = 10 ∨ j = 11 ∨ j = 12 ∨ j = 13 ∨ j = 14 ∨ j = 15 ∨ j = 16 ∨ j = 17 ∨ j = 18 ∨ j = 19 ∨ j = 20 ∨ j = 21 by omega) with rfl | rfl | rfl | rfl | rfl | rfl | rfl | rfl | rfl | rfl | rfl | rfl | rfl | rfl | rfl | rfl | rfl | rfl | rfl | rfl | rfl | rfl <;> rfl) h_1 h_2 dL_law_8 (fun q7 H hP hD hS => ?_)
  refine W.widen (k := 252) (n := 2161) (by decide) (by decide) ?_
  refine lv_dup hx hb dL_law_11 rfl ?_
  have hkc : 252 + 12 ≤ room_1.cells := Nat.le_of_ble_eq_true rfl
  have hks : 2161 + 1926 ≤ room_1.slots := Nat.le_of_ble_eq_true rfl
  have hFc := va_free1 hD hS hA
  refine va_callv (va_runI (As := []) (rest := [.ref q7]) ⟨hx, hb, hml, hown, hts⟩ (ctX7_init l D cI cZ q7 H.size) (cwI 0 hts gL_law_X7_init rfl rfl rfl (hts0 (.initialized RX7) (by decide +kernel)) (hts0 (.methodLink R_law 12 yX7_init) (by decide +kernel)) (hts0 (.instanceMethod yX7_init) (by decide +kernel)) rfl (by decide +kernel) ⟨Nat.le_of_ble_eq_true rfl, Nat.le_of_ble_eq_true rfl⟩) ⟨PcN.blind, fun U hU hW => ⟨rfl, by rw [hU], by rw [hU]; exact va_P1 hP, hGN.moved hW⟩⟩ rfl rfl hl.1 rfl (lv_room (Nat.le_of_ble_eq_true rfl)) dL_law_12 ⟨hkc, hks⟩) hS (fun q _ h => hFc q h) hFc (fun a7 t H1 locs ht hvm hw hB hz1 hk1 hS => ?_)
  refine W.widen (k := 264) (n := 4087) (by decide) (by decide) ?_
  obtain ⟨hP1, hD1⟩ := hB
  rw [ht] at hP1
  obtain ⟨hP, hD⟩ := va_join1 hP hD hk1 hFc hP1 hD1
  generalize H1 = H at hP hS ⊢
  refine lv_astore_n (lv' := [(2, .ref q7), (1, .ref q6), (0, .ref b)]) hx hb dL_law_15 rfl hl (by decide) rfl (fun ls hl => ?_)
  refine lv_iconst (v := 0) hx hb dL_law_16 (by decide) ?_
  refine lv_istore_n (lv' := [(3, .int 0), (2, .ref q7), (1, .ref q6), (0, .ref b)]) hx hb dL_law_17 rfl hl (by decide) rfl (fun ls hl => ?_)
  have hP := wW_P (t := tb) hP
  obtain ⟨hG, hAA⟩ := wW_I (D := D) (t := tb) hD
  have hGW : GW (D, adW g1 g2 g3 q6 q7 a7, cI, cZ, cR, cW, tb) (fun q : Nat => s.heap.size ≤ q) s := ⟨hK.app hK1, hGN.2.1, hZ, hT⟩
  obtain ⟨σ0, hf⟩ := hpure (fun k => (xs k).toInt) (fun k => Rg_ti _)
  exact tlL_law hG ⟨hx, hb, hml, hown, hts, hGW, hG, hAA⟩ hr hlocks hX hbl (fun _ => rfl) (fun k => Rg_ti _) (show Rg (L : Int) from ⟨by omega, by omega⟩) ⟨Nat.le_of_ble_eq_true rfl, Nat.le_of_ble_eq_true rfl⟩ FU RgS_σI (Rg_c rfl) hf H _ ls (lv_sub hl [3, 2, 1, 0] rfl) hP hS
