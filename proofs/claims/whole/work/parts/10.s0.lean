/-! J6_bitCount_0f7a4 -/
theorem kJ6_bitCount_0f7a4_c265 : Cond.constant RJ6 265 (1431655765) ∈ wsJ6_bitCount_0f7a4 := by decide +kernel
theorem kJ6_bitCount_0f7a4_c266 : Cond.constant RJ6 266 (858993459) ∈ wsJ6_bitCount_0f7a4 := by decide +kernel
theorem kJ6_bitCount_0f7a4_c267 : Cond.constant RJ6 267 (252645135) ∈ wsJ6_bitCount_0f7a4 := by decide +kernel
abbrev rmJ6_bitCount_0f7a4 : Room := { frames := 0, cells := 0, slots := 0, locals := 0 }
set_option maxHeartbeats 4000000 in
set_option maxRecDepth 100000 in
theorem sJ6_bitCount_0f7a4 (l : Launch) {G : GT} (hG : GI G) {v0 : Int} (h0 : Rg v0) {σ : Hp} (hs : RgS σ) : Cti l G yJ6_bitCount_0f7a4 wsJ6_bitCount_0f7a4 rmJ6_bitCount_0f7a4 [iv v0] σ (fJ6_bitCount_0f7a4 v0) σ := by
  obtain ⟨x0, hf⟩ : ∃ x, fJ6_bitCount_0f7a4 v0 = x := ⟨_, rfl⟩
  rw [hf]
  unfold fJ6_bitCount_0f7a4 at hf
  refine Cti_start (lv := [(0, iv v0)]) (ret := (some .int)) (by decide +kernel) rfl hG (Nat.le_of_ble_eq_true rfl) rfl (fun p e s m args below meth c hC hr hlk => ?_)
  refine V_iload_n (k := 0) (q := 1) hC 0 rfl dJ6_bitCount_0f7a4_0 rfl ?_
  refine V_iload_n (k := 0) (q := 2) hC 0 rfl dJ6_bitCount_0f7a4_1 rfl ?_
  refine V_iconst (q := 3) hC dJ6_bitCount_0f7a4_2 rfl ?_
  refine V_iushr (q := 4) hC dJ6_bitCount_0f7a4_3 rfl ?_
  refine V_ldcw (q := 7) (n := 1431655765) hC (by decide) kJ6_bitCount_0f7a4_c265 dJ6_bitCount_0f7a4_4 rfl ?_
  refine V_iand (q := 8) hC dJ6_bitCount_0f7a4_7 rfl ?_
  refine V_isub (q := 9) hC dJ6_bitCount_0f7a4_8 rfl ?_
  refine V_istore_n (k := 0) (i := 0) (lv' := [(0, iv (wr (v0 - (qand (qushr v0 1) 1431655765))))]) (q := 10) hC [0] rfl (by decide) rfl dJ6_bitCount_0f7a4_9 rfl ?_
  refine V_iload_n (k := 0) (q := 11) hC 0 rfl dJ6_bitCount_0f7a4_10 rfl ?_
  refine V_ldcw (q := 14) (n := 858993459) hC (by decide) kJ6_bitCount_0f7a4_c266 dJ6_bitCount_0f7a4_11 rfl ?_
  refine V_iand (q := 15) hC dJ6_bitCount_0f7a4_14 rfl ?_
  refine V_iload_n (k := 0) (q := 16) hC 0 rfl dJ6_bitCount_0f7a4_15 rfl ?_
  refine V_iconst (q := 17) hC dJ6_bitCount_0f7a4_16 rfl ?_
  refine V_iushr (q := 18) hC dJ6_bitCount_0f7a4_17 rfl ?_
  refine V_ldcw (q := 21) (n := 858993459) hC (by decide) kJ6_bitCount_0f7a4_c266 dJ6_bitCount_0f7a4_18 rfl ?_
  refine V_iand (q := 22) hC dJ6_bitCount_0f7a4_21 rfl ?_
  refine V_iadd (q := 23) hC dJ6_bitCount_0f7a4_22 rfl ?_
  refine V_istore_n (k := 0) (i := 0) (lv' := [(0, iv (wr ((qand (wr (v0 - (qand (qushr v0 1) 1431655765))) 858993459) + (qand (qushr (wr (v0 - (qand (qushr v0 1) 1431655765))) 2) 858993459))))]) (q := 24) hC [0] rfl (by decide) rfl dJ6_bitCount_0f7a4_23 rfl ?_
  refine V_iload_n (k := 0) (q := 25) hC 0 rfl dJ6_bitCount_0f7a4_24 rfl ?_
  refine V_iload_n (k := 0) (q := 26) hC 0 rfl dJ6_bitCount_0f7a4_25 rfl ?_
  refine V_iconst (q := 27) hC dJ6_bitCount_0f7a4_26 rfl ?_
  refine V_iushr (q := 28) hC dJ6_bitCount_0f7a4_27 rfl ?_
  refine V_iadd (q := 29) hC dJ6_bitCount_0f7a4_28 rfl ?_
  refine V_ldcw (q := 32) (n := 252645135) hC (by decide) kJ6_bitCount_0f7a4_c267 dJ6_bitCount_0f7a4_29 rfl ?_
  refine V_iand (q := 33) hC dJ6_bitCount_0f7a4_32 rfl ?_
  obtain ⟨x1, ex2, hf⟩ := sq_ex hf
  refine V_top ex2 ?_
  refine V_istore_n (k := 0) (i := 0) (lv' := [(0, iv x1)]) (q := 34) hC [0] rfl (by decide) rfl dJ6_bitCount_0f7a4_33 rfl ?_
  refine V_iload_n (k := 0) (q := 35) hC 0 rfl dJ6_bitCount_0f7a4_34 rfl ?_
  refine V_iload_n (k := 0) (q := 36) hC 0 rfl dJ6_bitCount_0f7a4_35 rfl ?_
  refine V_bipush (q := 38) hC (by decide) dJ6_bitCount_0f7a4_36 rfl ?_
  refine V_iushr (q := 39) hC dJ6_bitCount_0f7a4_38 rfl ?_
  refine V_iadd (q := 40) hC dJ6_bitCount_0f7a4_39 rfl ?_
  refine V_istore_n (k := 0) (i := 0) (lv' := [(0, iv (wr (x1 + (qushr x1 8))))]) (q := 41) hC [0] rfl (by decide) rfl dJ6_bitCount_0f7a4_40 rfl ?_
  refine V_iload_n (k := 0) (q := 42) hC 0 rfl dJ6_bitCount_0f7a4_41 rfl ?_
  refine V_iload_n (k := 0) (q := 43) hC 0 rfl dJ6_bitCount_0f7a4_42 rfl ?_
  refine V_bipush (q := 45) hC (by decide) dJ6_bitCount_0f7a4_43 rfl ?_
  refine V_iushr (q := 46) hC dJ6_bitCount_0f7a4_45 rfl ?_
  refine V_iadd (q := 47) hC dJ6_bitCount_0f7a4_46 rfl ?_
  refine V_istore_n (k := 0) (i := 0) (lv' := [(0, iv (wr ((wr (x1 + (qushr x1 8))) + (qushr (wr (x1 + (qushr x1 8))) 16))))]) (q := 48) hC [0] rfl (by decide) rfl dJ6_bitCount_0f7a4_47 rfl ?_
  refine V_iload_n (k := 0) (q := 49) hC 0 rfl dJ6_bitCount_0f7a4_48 rfl ?_
  refine V_bipush (q := 51) hC (by decide) dJ6_bitCount_0f7a4_49 rfl ?_
  refine V_iand (q := 52) hC dJ6_bitCount_0f7a4_51 rfl ?_
  exact V_iret hC hr hlk hf rfl (Rg_qand _ _) hs dJ6_bitCount_0f7a4_52
/-! J7_fill_53178 -/
abbrev rmJ7_fill_53178 : Room := { frames := 0, cells := 0, slots := 0, locals := 0 }
set_option maxHeartbeats 4000000 in
set_option maxRecDepth 100000 in
theorem tlJ7_fill_53178_5 {p : Program} {l : Launch} {e : Env} {s : State} {m : MethodId} {args : Array Value} {below : List Frame} {meth : Method} {c : Code} {G : GT} (hG : GI G) (hC : CX p s m args c cJ7_fill_53178 4 RJ7 wsJ7_fill_53178 G (AA G)) (hr : meth.sig.returnType = none) (hlk : meth.locks = false) {s0 : Nat} {j0 : Nat} (hi0 : InD s0 j0) {r0 : Int × Hp} : ∀ n : Nat, (∀ {σ : Hp} (hs : RgS σ) {v1 : Int} {v2 : Int} {v3 : Int} (h1 : Rg v1) (h2 : Rg v2) (h3 : Rg v3) (hf : lJ7_fill_53178_5 n σ s0 j0 v1 v2 v3 = some r0), VV p l e (headSpec wsJ7_fill_53178 rmJ7_fill_53178).room s m args below meth c (MQ below (QV G r0.2) args s 0 0 (AA G)) G (AA G) 0 0 4 σ 5 [(0, rf G s0 j0), (1, iv v1), (2, iv v2), (3, iv v3)] []) := by
  intro n
  induction n with
  | zero =>
    exact by intro σ hs v1 v2 v3 h1 h2 h3 hf; exact absurd (show (none : Option (Int × Hp)) = some r0 from hf) (fun z => by cases z)
  | succ n ih =>
    intro σ hs v1 v2 v3 h1 h2 h3 hf
    replace hf := (lJ7_fill_53178_5_e0 n σ s0 j0 v1 v2 v3).symm.trans hf
    refine V_iload_n (k := 2) (q := 6) hC 2 rfl dJ7_fill_53178_5 rfl ?_
    refine V_iload_n (k := 3) (q := 7) hC 3 rfl dJ7_fill_53178_6 rfl ?_
    refine V_icmp_ge (tgt := 20) (q := 10) hC h2 h3 dJ7_fill_53178_7 (by decide) rfl (fun c2 => ?_) (fun c2 => ?_)
    · replace hf := (if_pos c2).symm.trans hf
      exact V_vret hC hr hlk (re_2 hf) hs dJ7_fill_53178_20
    · replace hf := (if_neg c2).symm.trans hf
      refine V_aload_n (k := 0) (q := 11) hC 0 rfl dJ7_fill_53178_10 rfl ?_
      refine V_iload_n (k := 2) (q := 12) hC 2 rfl dJ7_fill_53178_11 rfl ?_
      refine V_iload_n (k := 1) (q := 13) hC 1 rfl dJ7_fill_53178_12 rfl ?_
      obtain ⟨g3, hf⟩ := gd_some hf
      obtain ⟨σ4, e5, hf⟩ := sq_ex hf
      have hs6 : RgS σ4 := by rw [e5]; exact RgS_hup hs h1
      refine V_iast (q := 14) hC hi0 rfl g3 h2 e5 dJ7_fill_53178_13 rfl ?_
      refine V_iinc (i := 2) (lv' := [(0, rf G s0 j0), (1, iv v1), (2, iv (wr (v2 + 1))), (3, iv v3)]) (q := 17) hC 2 rfl [1, 2, 0, 3] (by decide) rfl dJ7_fill_53178_14 rfl ?_
      refine V_goto (tgt := 5) hC dJ7_fill_53178_17 (by decide) ?_
      refine V_lsub [0, 1, 2, 3] rfl ?_
      exact ih hs6 h1 (Rg_wr _) h3 hf
set_option maxHeartbeats 4000000 in
set_option maxRecDepth 100000 in
theorem sJ7_fill_53178 (l : Launch) {G : GT} (hG : GI G) {s0 : Nat} {j0 : Nat} {v1 : Int} (hi0 : InD s0 j0) (h1 : Rg v1) {σ : Hp} (hs : RgS σ) {r0 : Int × Hp} (hf : fJ7_fill_53178 σ s0 j0 v1 = some r0) : Ctv l G yJ7_fill_53178 wsJ7_fill_53178 rmJ7_fill_53178 [rf G s0 j0, iv v1] σ r0.2 := by
  unfold fJ7_fill_53178 at hf
  refine Ctv_start (lv := [(0, rf G s0 j0), (1, iv v1)]) (ret := none) (by decide +kernel) rfl hG (Nat.le_of_ble_eq_true rfl) rfl (fun p e s m args below meth c hC hr hlk => ?_)
  refine V_iconst (q := 1) hC dJ7_fill_53178_0 rfl ?_
  refine V_istore_n (k := 2) (i := 2) (lv' := [(0, rf G s0 j0), (1, iv v1), (2, iv 0)]) (q := 2) hC [1, 2, 0] rfl (by decide) rfl dJ7_fill_53178_1 rfl ?_
  refine V_aload_n (k := 0) (q := 3) hC 0 rfl dJ7_fill_53178_2 rfl ?_
  obtain ⟨g1, hf⟩ := gd_some hf
  refine V_alen (q := 4) hC hi0 rfl g1 dJ7_fill_53178_3 rfl ?_
  refine V_istore_n (k := 3) (i := 3) (lv' := [(0, rf G s0 j0), (1, iv v1), (2, iv 0), (3, iv (alen s0 : Int))]) (q := 5) hC [1, 2, 3, 0] rfl (by decide) rfl dJ7_fill_53178_4 rfl ?_
  refine V_lsub [0, 1, 2, 3] rfl ?_
  exact (tlJ7_fill_53178_5 hG hC hr hlk hi0 FU) hs h1 (Rg_c rfl) (Rg_alen _) hf
/-! X6_isOfKind -/
theorem kX6_isOfKind_f289 : Cond.fieldLink RX6 289 "BarkNames" "IS_TOO" "[I" ∈ wsX6_isOfKind := by decide +kernel
abbrev rmX6_isOfKind : Room := { frames := 0, cells := 0, slots := 0, locals := 0 }
set_option maxHeartbeats 4000000 in
set_option maxRecDepth 100000 in
theorem tlX6_isOfKind_4 {p : Program} {l : Launch} {e : Env} {s : State} {m : MethodId} {args : Array Value} {below : List Frame} {meth : Method} {c : Code} {G : GT} (hG : GI G) (hC : CX p s m args c cX6_isOfKind 4 RX6 wsX6_isOfKind G (AA G)) (hr : meth.sig.returnType = (some .boolean)) (hlk : meth.locks = false) {r0 : Int × Hp} : ∀ n : Nat, (∀ {σ : Hp} (hs : RgS σ) {v1 : Int} {v2 : Int} {v3 : Int} (h1 : Rg v1) (h2 : Rg v2) (h3 : Rg v3) (hf : lX6_isOfKind_4 n σ v1 v2 v3 = some r0), VV p l e (headSpec wsX6_isOfKind rmX6_isOfKind).room s m args below meth c (MQ below (QI G r0.1 r0.2) args s 0 0 (AA G)) G (AA G) 0 0 4 σ 4 [(1, iv v1), (2, iv v2), (3, iv v3)] []) := by
  intro n
  induction n with
  | zero =>
    exact by intro σ hs v1 v2 v3 h1 h2 h3 hf; exact absurd (show (none : Option (Int × Hp)) = some r0 from hf) (fun z => by cases z)
  | succ n ih =>
    intro σ hs v1 v2 v3 h1 h2 h3 hf
    replace hf := (lX6_isOfKind_4_e0 n σ v1 v2 v3).symm.trans hf
    refine V_iload_n (k := 3) (q := 5) hC 2 rfl dX6_isOfKind_4 rfl ?_
    refine V_gett (q := 8) hC kX6_isOfKind_f289 dX6_isOfKind_5 rfl ?_
    refine V_tlen (q := 9) hC dX6_isOfKind_8 rfl ?_
    refine V_icmp_ge (tgt := 35) (q := 12) hC h3 (Rg_c rfl) dX6_isOfKind_9 (by decide) rfl (fun c1 => ?_) (fun c1 => ?_)
    · replace hf := (if_pos c1).symm.trans hf
      refine V_iconst (q := 36) hC dX6_isOfKind_35 rfl ?_
      exact V_zret hC hr hlk (Or.inl rfl) (re_1 hf) (re_2 hf) hs dX6_isOfKind_36
    · replace hf := (if_neg c1).symm.trans hf
      refine V_iload_n (k := 2) (q := 13) hC 1 rfl dX6_isOfKind_12 rfl ?_
      refine V_if_lt (tgt := 35) (q := 16) hC h2 dX6_isOfKind_13 (by decide) rfl (fun c2 => ?_) (fun c2 => ?_)
      · replace hf := (if_pos c2).symm.trans hf
        refine V_iconst (q := 36) hC dX6_isOfKind_35 rfl ?_
        exact V_zret hC hr hlk (Or.inl rfl) (re_1 hf) (re_2 hf) hs dX6_isOfKind_36
      · replace hf := (if_neg c2).symm.trans hf
        refine V_iload_n (k := 2) (q := 17) hC 1 rfl dX6_isOfKind_16 rfl ?_
        refine V_iload_n (k := 1) (q := 18) hC 0 rfl dX6_isOfKind_17 rfl ?_
        refine V_icmp_ne (tgt := 23) (q := 21) hC h2 h1 dX6_isOfKind_18 (by decide) rfl (fun c3 => ?_) (fun c3 => ?_)
        · replace hf := (if_neg c3).symm.trans hf
          refine V_gett (q := 26) hC kX6_isOfKind_f289 dX6_isOfKind_23 rfl ?_
          refine V_iload_n (k := 2) (q := 27) hC 1 rfl dX6_isOfKind_26 rfl ?_
          obtain ⟨g4, hf⟩ := gd_some hf
          refine V_tld (q := 28) hC g4 h2 dX6_isOfKind_27 rfl ?_
          refine V_istore_n (k := 2) (i := 2) (lv' := [(1, iv v1), (2, iv (isToo v2.toNat)), (3, iv v3)]) (q := 29) hC [1, 0, 2] rfl (by decide) rfl dX6_isOfKind_28 rfl ?_
          refine V_iinc (i := 3) (lv' := [(1, iv v1), (2, iv (isToo v2.toNat)), (3, iv (wr (v3 + 1)))]) (q := 32) hC 2 rfl [1, 2, 0] (by decide) rfl dX6_isOfKind_29 rfl ?_
          refine V_goto (tgt := 4) hC dX6_isOfKind_32 (by decide) ?_
          refine V_lsub [0, 1, 2] rfl ?_
          exact ih hs h1 (Rg_isToo _) (Rg_wr _) hf
        · replace hf := (if_pos c3).symm.trans hf
          refine V_iconst (q := 22) hC dX6_isOfKind_21 rfl ?_
          exact V_zret hC hr hlk (Or.inr rfl) (re_1 hf) (re_2 hf) hs dX6_isOfKind_22
set_option maxHeartbeats 4000000 in
set_option maxRecDepth 100000 in
theorem sX6_isOfKind (l : Launch) {G : GT} (hG : GI G) {v0 : Int} {v1 : Int} (h0 : Rg v0) (h1 : Rg v1) {σ : Hp} (hs : RgS σ) {r0 : Int × Hp} (hf : fX6_isOfKind σ v0 v1 = some r0) : Cti l G yX6_isOfKind wsX6_isOfKind rmX6_isOfKind [iv v0, iv v1] σ r0.1 r0.2 := by
  unfold fX6_isOfKind at hf
  refine Cti_start (lv := [(0, iv v0), (1, iv v1)]) (ret := (some .boolean)) (by decide +kernel) rfl hG (Nat.le_of_ble_eq_true rfl) rfl (fun p e s m args below meth c hC hr hlk => ?_)
  refine V_iload_n (k := 0) (q := 1) hC 0 rfl dX6_isOfKind_0 rfl ?_
  refine V_istore_n (k := 2) (i := 2) (lv' := [(0, iv v0), (1, iv v1), (2, iv v0)]) (q := 2) hC [1, 2, 0] rfl (by decide) rfl dX6_isOfKind_1 rfl ?_
  refine V_iconst (q := 3) hC dX6_isOfKind_2 rfl ?_
  refine V_istore_n (k := 3) (i := 3) (lv' := [(0, iv v0), (1, iv v1), (2, iv v0), (3, iv 0)]) (q := 4) hC [1, 2, 3, 0] rfl (by decide) rfl dX6_isOfKind_3 rfl ?_
  refine V_lsub [1, 2, 3] rfl ?_
  exact (tlX6_isOfKind_4 hG hC hr hlk FU) hs h1 h0 (Rg_c rfl) hf
/-! X0_note -/
theorem kX0_note_f44 : Cond.fieldLink RX0 44 "BarkNames$Asks" "traced" "I" ∈ wsX0_note := by decide +kernel
theorem uX0_note_0 : ∀ w ∈ u_ws RX0 TX0 2, w ∈ wsX0_note := by decide +kernel
theorem kX0_note_f9 : Cond.fieldLink RX0 9 "BarkNames$Asks" "numbers" "[I" ∈ wsX0_note := by decide +kernel
abbrev rmX0_note : Room := { frames := 0, cells := 0, slots := 0, locals := 0 }
set_option maxHeartbeats 4000000 in
set_option maxRecDepth 100000 in
theorem sX0_note (l : Launch) {G : GT} (hG : GI G) {v1 : Int} (h1 : Rg v1) {σ : Hp} (hs : RgS σ) {r0 : Int × Hp} (hf : fX0_note σ v1 = some r0) : Ctv l G yX0_note wsX0_note rmX0_note [rf G 0 0, iv v1] σ r0.2 := by
  unfold fX0_note at hf
  refine Ctv_start (lv := [(0, rf G 0 0), (1, iv v1)]) (ret := none) (by decide +kernel) rfl hG (Nat.le_of_ble_eq_true rfl) rfl (fun p e s m args below meth c hC hr hlk => ?_)
  refine V_aload_n (k := 0) (q := 1) hC 0 rfl dX0_note_0 rfl ?_
  refine V_getf (T := TX0) (k := 1) (q := 4) hC uX0_note_0 rfl iD0 rfl (by decide) kX0_note_f44 rfl dX0_note_1 rfl ?_
  refine V_bipush (q := 6) hC (by decide) dX0_note_4 rfl ?_
  refine V_icmp_ge (tgt := 29) (q := 9) hC (hs _ _ _) (Rg_c rfl) dX0_note_6 (by decide) rfl (fun c1 => ?_) (fun c1 => ?_)
  · replace hf := (if_pos c1).symm.trans hf
    exact V_vret hC hr hlk (re_2 hf) hs dX0_note_29
  · replace hf := (if_neg c1).symm.trans hf
    refine V_aload_n (k := 0) (q := 10) hC 0 rfl dX0_note_9 rfl ?_
    refine V_getf (T := TX0) (k := 0) (q := 13) hC uX0_note_0 rfl iD0 rfl (by decide) kX0_note_f9 rfl dX0_note_10 rfl ?_
    refine V_aload_n (k := 0) (q := 14) hC 0 rfl dX0_note_13 rfl ?_
    refine V_getf (T := TX0) (k := 1) (q := 17) hC uX0_note_0 rfl iD0 rfl (by decide) kX0_note_f44 rfl dX0_note_14 rfl ?_
    refine V_iload_n (k := 1) (q := 18) hC 1 rfl dX0_note_17 rfl ?_
    obtain ⟨g2, hf⟩ := gd_some hf
    obtain ⟨σ3, e4, hf⟩ := sq_ex hf
    have hs5 : RgS σ3 := by rw [e4]; exact RgS_hup hs h1
    refine V_iast (n := 16) (q := 19) hC iD8 rfl g2 (hs _ _ _) e4 dX0_note_18 rfl ?_
    refine V_aload_n (k := 0) (q := 20) hC 0 rfl dX0_note_19 rfl ?_
    refine V_dup (q := 21) hC rfl dX0_note_20 rfl ?_
    refine V_getf (T := TX0) (k := 1) (q := 24) hC uX0_note_0 rfl iD0 rfl (by decide) kX0_note_f44 rfl dX0_note_21 rfl ?_
    refine V_iconst (q := 25) hC dX0_note_24 rfl ?_
    refine V_iadd (q := 26) hC dX0_note_25 rfl ?_
    obtain ⟨σ6, e7, hf⟩ := sq_ex hf
    have hs8 : RgS σ6 := by rw [e7]; exact RgS_hup hs5 (Rg_wr _)
    refine V_putf (T := TX0) (k := 1) (ty := .int) (q := 29) hC uX0_note_0 rfl tyX0 tyX0_ok nmX0 iD0 rfl (pf_0_1 _ _ _ _ rfl) (by decide) kX0_note_f44 rfl (by decide +kernel) rfl rfl (Nat.le_of_ble_eq_true rfl) e7 dX0_note_26 rfl ?_
    exact V_vret hC hr hlk (re_2 hf) hs8 dX0_note_29
/-! X0_markOfBeech -/
theorem kX0_markOfBeech_f15 : Cond.fieldLink RX0 15 "BarkNames$Wood" "kindOf" "[I" ∈ wsX0_markOfBeech := by decide +kernel
theorem uX0_markOfBeech_5 : ∀ w ∈ u_ws RX5 TX5 12, w ∈ wsX0_markOfBeech := by decide +kernel
theorem kX0_markOfBeech_f41 : Cond.fieldLink RX0 41 "BarkNames$Wood" "girthOf" "[I" ∈ wsX0_markOfBeech := by decide +kernel
abbrev rmX0_markOfBeech : Room := { frames := 1, cells := 0, slots := 0, locals := 21 }
set_option maxHeartbeats 4000000 in
set_option maxRecDepth 100000 in
theorem tjX0_markOfBeech_32 {p : Program} {l : Launch} {e : Env} {s : State} {m : MethodId} {args : Array Value} {below : List Frame} {meth : Method} {c : Code} {G : GT} (hG : GI G) (hC : CX p s m args c cX0_markOfBeech 5 RX0 wsX0_markOfBeech G (AA G)) (hr : meth.sig.returnType = (some .int)) (hlk : meth.locks = false) {j1 : Nat} (hj1 : j1 < 28) {r0 : Int × Hp} {σ : Hp} (hs : RgS σ) {v2 : Int} {v3 : Int} (h2 : Rg v2) (h3 : Rg v3) (hf : jX0_markOfBeech_32 σ j1 v2 v3 = some r0) : VV p l e (headSpec wsX0_markOfBeech rmX0_markOfBeech).room s m args below meth c (MQ below (QI G r0.1 r0.2) args s 0 0 (AA G)) G (AA G) 0 0 5 σ 32 [(0, rf G 0 0), (1, rf G 5 j1), (2, iv v2), (3, iv v3)] [] := by
  unfold jX0_markOfBeech_32 at hf
  refine V_aload_n (k := 0) (q := 33) hC 0 rfl dX0_markOfBeech_32 rfl ?_
  refine V_bipush (q := 35) hC (by decide) dX0_markOfBeech_33 rfl ?_
  obtain ⟨r14, σ15, hc16, hf⟩ := cl_some hf
  refine V_cvv (st := []) (q := 38) (σ0 := σ15) hC (sX0_note l hG (Rg_c rfl) hs hc16) (cwV 1 hC.2.2.2.2.1 gX0_markOfBeech_X0_note rfl rfl rfl (by decide +kernel) ⟨Nat.le_of_ble_eq_true rfl, Nat.le_of_ble_eq_true rfl⟩) ⟨_, rfl, rfl⟩ iD0 (fun _ => ⟨_, rfl⟩) rfl rfl (Nat.le_of_ble_eq_true rfl) dX0_markOfBeech_35 rfl ⟨Nat.zero_le _, Nat.zero_le _⟩ (fun hs18 => ?_)
  refine V_aload_n (k := 0) (q := 39) hC 0 rfl dX0_markOfBeech_38 rfl ?_
  refine V_bipush (q := 41) hC (by decide) dX0_markOfBeech_39 rfl ?_
  obtain ⟨r19, σ20, hc21, hf⟩ := cl_some hf
  refine V_cvv (st := []) (q := 44) (σ0 := σ20) hC (sX0_note l hG (Rg_c rfl) hs18 hc21) (cwV 1 hC.2.2.2.2.1 gX0_markOfBeech_X0_note rfl rfl rfl (by decide +kernel) ⟨Nat.le_of_ble_eq_true rfl, Nat.le_of_ble_eq_true rfl⟩) ⟨_, rfl, rfl⟩ iD0 (fun _ => ⟨_, rfl⟩) rfl rfl (Nat.le_of_ble_eq_true rfl) dX0_markOfBeech_41 rfl ⟨Nat.zero_le _, Nat.zero_le _⟩ (fun hs23 => ?_)
  refine V_iload_n (k := 2) (q := 45) hC 2 rfl dX0_markOfBeech_44 rfl ?_
  refine V_aload_n (k := 1) (q := 46) hC 1 rfl dX0_markOfBeech_45 rfl ?_
  refine V_getf (T := TX5) (k := 1) (q := 49) hC uX0_markOfBeech_5 rfl (iM5 hj1) rfl (by decide) kX0_markOfBeech_f41 rfl dX0_markOfBeech_46 rfl ?_
  refine V_iload_n (k := 2) (q := 50) hC 2 rfl dX0_markOfBeech_49 rfl ?_
  obtain ⟨g24, hf⟩ := gd_some hf
  refine V_iald (n := 4) (q := 51) hC (iM14 hj1) rfl g24 h2 dX0_markOfBeech_50 rfl ?_
  refine V_iadd (q := 52) hC dX0_markOfBeech_51 rfl ?_
  refine V_istore (i := 4) (lv' := [(0, rf G 0 0), (1, rf G 5 j1), (2, iv v2), (3, iv v3), (4, iv (wr (v2 + (σ20 14 j1 v2.toNat))))]) (q := 54) hC [1, 2, 3, 4, 0] (by decide) rfl dX0_markOfBeech_52 rfl ?_
  refine V_iload_n (k := 3) (q := 55) hC 3 rfl dX0_markOfBeech_54 rfl ?_
  refine V_iconst (q := 56) hC dX0_markOfBeech_55 rfl ?_
  refine V_icmp_ne (tgt := 64) (q := 59) hC h3 (Rg_c rfl) dX0_markOfBeech_56 (by decide) rfl (fun c25 => ?_) (fun c25 => ?_)
  · replace hf := (if_neg c25).symm.trans hf
    refine V_iload_n (k := 3) (q := 65) hC 3 rfl dX0_markOfBeech_64 rfl ?_
    refine V_iconst (q := 66) hC dX0_markOfBeech_65 rfl ?_
    refine V_icmp_ne (tgt := 78) (q := 69) hC h3 (Rg_c rfl) dX0_markOfBeech_66 (by decide) rfl (fun c26 => ?_) (fun c26 => ?_)
    · replace hf := (if_neg c26).symm.trans hf
      refine V_iload (k := 4) (q := 80) hC 4 rfl dX0_markOfBeech_78 rfl ?_
      exact V_iret hC hr hlk (re_1 hf) (re_2 hf) (Rg_wr _) hs23 dX0_markOfBeech_80
    · replace hf := (if_pos c26).symm.trans hf
      refine V_iload (k := 4) (q := 71) hC 4 rfl dX0_markOfBeech_69 rfl ?_
      refine V_sipush (q := 74) hC (by decide) dX0_markOfBeech_71 rfl ?_
      refine V_isub (q := 75) hC dX0_markOfBeech_74 rfl ?_
      refine V_goto (tgt := 80) hC dX0_markOfBeech_75 (by decide) ?_
      exact V_iret hC hr hlk (re_1 hf) (re_2 hf) (Rg_wr _) hs23 dX0_markOfBeech_80
  · replace hf := (if_pos c25).symm.trans hf
    refine V_iconst (q := 60) hC dX0_markOfBeech_59 rfl ?_
    refine V_iload (k := 4) (q := 62) hC 4 rfl dX0_markOfBeech_60 rfl ?_
    refine V_imul (q := 63) hC dX0_markOfBeech_62 rfl ?_
    exact V_iret hC hr hlk (re_1 hf) (re_2 hf) (Rg_wr _) hs23 dX0_markOfBeech_63
set_option maxHeartbeats 4000000 in
set_option maxRecDepth 100000 in
theorem sX0_markOfBeech (l : Launch) {G : GT} (hG : GI G) {j1 : Nat} {v2 : Int} (hj1 : j1 < 28) (h2 : Rg v2) {σ : Hp} (hs : RgS σ) {r0 : Int × Hp} (hf : fX0_markOfBeech σ j1 v2 = some r0) : Cti l G yX0_markOfBeech wsX0_markOfBeech rmX0_markOfBeech [rf G 0 0, rf G 5 j1, iv v2] σ r0.1 r0.2 := by
  unfold fX0_markOfBeech at hf
  refine Cti_start (lv := [(0, rf G 0 0), (1, rf G 5 j1), (2, iv v2)]) (ret := (some .int)) (by decide +kernel) rfl hG (Nat.le_of_ble_eq_true rfl) rfl (fun p e s m args below meth c hC hr hlk => ?_)
  refine V_aload_n (k := 1) (q := 1) hC 1 rfl dX0_markOfBeech_0 rfl ?_
  refine V_getf (T := TX5) (k := 0) (q := 4) hC uX0_markOfBeech_5 rfl (iM5 hj1) rfl (by decide) kX0_markOfBeech_f15 rfl dX0_markOfBeech_1 rfl ?_
  refine V_iload_n (k := 2) (q := 5) hC 2 rfl dX0_markOfBeech_4 rfl ?_
  obtain ⟨g1, hf⟩ := gd_some hf
  refine V_iald (n := 4) (q := 6) hC (iM13 hj1) rfl g1 h2 dX0_markOfBeech_5 rfl ?_
  refine V_istore_n (k := 3) (i := 3) (lv' := [(0, rf G 0 0), (1, rf G 5 j1), (2, iv v2), (3, iv (σ 13 j1 v2.toNat))]) (q := 7) hC [1, 2, 3, 0] rfl (by decide) rfl dX0_markOfBeech_6 rfl ?_
  refine V_iload_n (k := 3) (q := 8) hC 3 rfl dX0_markOfBeech_7 rfl ?_
  refine V_iconst (q := 9) hC dX0_markOfBeech_8 rfl ?_
  refine V_icmp_ne (tgt := 21) (q := 12) hC (hs _ _ _) (Rg_c rfl) dX0_markOfBeech_9 (by decide) rfl (fun c2 => ?_) (fun c2 => ?_)
  · replace hf := (if_neg c2).symm.trans hf
    refine V_iload_n (k := 3) (q := 22) hC 3 rfl dX0_markOfBeech_21 rfl ?_
    refine V_iconst (q := 23) hC dX0_markOfBeech_22 rfl ?_
    refine V_icmp_ne (tgt := 32) (q := 26) hC (hs _ _ _) (Rg_c rfl) dX0_markOfBeech_23 (by decide) rfl (fun c3 => ?_) (fun c3 => ?_)
    · replace hf := (if_neg c3).symm.trans hf
      refine V_lsub [0, 1, 2, 3] rfl ?_
      exact tjX0_markOfBeech_32 hG hC hr hlk hj1 hs h2 (hs _ _ _) hf
    · replace hf := (if_pos c3).symm.trans hf
      refine V_aload_n (k := 0) (q := 27) hC 0 rfl dX0_markOfBeech_26 rfl ?_
      refine V_bipush (q := 29) hC (by decide) dX0_markOfBeech_27 rfl ?_
      obtain ⟨r4, σ5, hc6, hf⟩ := cl_some hf
      refine V_cvv (st := []) (q := 32) (σ0 := σ5) hC (sX0_note l hG (Rg_c rfl) hs hc6) (cwV 1 hC.2.2.2.2.1 gX0_markOfBeech_X0_note rfl rfl rfl (by decide +kernel) ⟨Nat.le_of_ble_eq_true rfl, Nat.le_of_ble_eq_true rfl⟩) ⟨_, rfl, rfl⟩ iD0 (fun _ => ⟨_, rfl⟩) rfl rfl (Nat.le_of_ble_eq_true rfl) dX0_markOfBeech_29 rfl ⟨Nat.zero_le _, Nat.zero_le _⟩ (fun hs8 => ?_)
      refine V_lsub [0, 1, 2, 3] rfl ?_
      exact tjX0_markOfBeech_32 hG hC hr hlk hj1 hs8 h2 (hs _ _ _) hf
  · replace hf := (if_pos c2).symm.trans hf
    refine V_aload_n (k := 0) (q := 13) hC 0 rfl dX0_markOfBeech_12 rfl ?_
    refine V_bipush (q := 15) hC (by decide) dX0_markOfBeech_13 rfl ?_
    obtain ⟨r9, σ10, hc11, hf⟩ := cl_some hf
    refine V_cvv (st := []) (q := 18) (σ0 := σ10) hC (sX0_note l hG (Rg_c rfl) hs hc11) (cwV 1 hC.2.2.2.2.1 gX0_markOfBeech_X0_note rfl rfl rfl (by decide +kernel) ⟨Nat.le_of_ble_eq_true rfl, Nat.le_of_ble_eq_true rfl⟩) ⟨_, rfl, rfl⟩ iD0 (fun _ => ⟨_, rfl⟩) rfl rfl (Nat.le_of_ble_eq_true rfl) dX0_markOfBeech_15 rfl ⟨Nat.zero_le _, Nat.zero_le _⟩ (fun hs13 => ?_)
    refine V_goto (tgt := 32) hC dX0_markOfBeech_18 (by decide) ?_
    refine V_lsub [0, 1, 2, 3] rfl ?_
    exact tjX0_markOfBeech_32 hG hC hr hlk hj1 hs13 h2 (hs _ _ _) hf
/-! X0_sizeOfBeech -/
theorem kX0_sizeOfBeech_f15 : Cond.fieldLink RX0 15 "BarkNames$Wood" "kindOf" "[I" ∈ wsX0_sizeOfBeech := by decide +kernel
theorem uX0_sizeOfBeech_5 : ∀ w ∈ u_ws RX5 TX5 12, w ∈ wsX0_sizeOfBeech := by decide +kernel
theorem kX0_sizeOfBeech_f38 : Cond.fieldLink RX0 38 "BarkNames$Wood" "sunOf" "[I" ∈ wsX0_sizeOfBeech := by decide +kernel
abbrev rmX0_sizeOfBeech : Room := { frames := 2, cells := 0, slots := 0, locals := 45 }
set_option maxHeartbeats 4000000 in
set_option maxRecDepth 100000 in
theorem tjX0_sizeOfBeech_26 {p : Program} {l : Launch} {e : Env} {s : State} {m : MethodId} {args : Array Value} {below : List Frame} {meth : Method} {c : Code} {G : GT} (hG : GI G) (hC : CX p s m args c cX0_sizeOfBeech 5 RX0 wsX0_sizeOfBeech G (AA G)) (hr : meth.sig.returnType = (some .int)) (hlk : meth.locks = false) {j1 : Nat} (hj1 : j1 < 28) {r0 : Int × Hp} {σ : Hp} (hs : RgS σ) {v2 : Int} {v3 : Int} (h2 : Rg v2) (h3 : Rg v3) (hf : jX0_sizeOfBeech_26 σ j1 v2 v3 = some r0) : VV p l e (headSpec wsX0_sizeOfBeech rmX0_sizeOfBeech).room s m args below meth c (MQ below (QI G r0.1 r0.2) args s 0 0 (AA G)) G (AA G) 0 0 5 σ 26 [(0, rf G 0 0), (1, rf G 5 j1), (2, iv v2), (3, iv v3)] [] := by
  unfold jX0_sizeOfBeech_26 at hf
  refine V_aload_n (k := 0) (q := 27) hC 0 rfl dX0_sizeOfBeech_26 rfl ?_
  refine V_bipush (q := 29) hC (by decide) dX0_sizeOfBeech_27 rfl ?_
  obtain ⟨r9, σ10, hc11, hf⟩ := cl_some hf
  refine V_cvv (st := []) (q := 32) (σ0 := σ10) hC (sX0_note l hG (Rg_c rfl) hs hc11) (cwV 1 hC.2.2.2.2.1 gX0_sizeOfBeech_X0_note rfl rfl rfl (by decide +kernel) ⟨Nat.le_of_ble_eq_true rfl, Nat.le_of_ble_eq_true rfl⟩) ⟨_, rfl, rfl⟩ iD0 (fun _ => ⟨_, rfl⟩) rfl rfl (Nat.le_of_ble_eq_true rfl) dX0_sizeOfBeech_29 rfl ⟨Nat.zero_le _, Nat.zero_le _⟩ (fun hs13 => ?_)
  refine V_aload_n (k := 0) (q := 33) hC 0 rfl dX0_sizeOfBeech_32 rfl ?_
  refine V_bipush (q := 35) hC (by decide) dX0_sizeOfBeech_33 rfl ?_
  obtain ⟨r14, σ15, hc16, hf⟩ := cl_some hf
  refine V_cvv (st := []) (q := 38) (σ0 := σ15) hC (sX0_note l hG (Rg_c rfl) hs13 hc16) (cwV 1 hC.2.2.2.2.1 gX0_sizeOfBeech_X0_note rfl rfl rfl (by decide +kernel) ⟨Nat.le_of_ble_eq_true rfl, Nat.le_of_ble_eq_true rfl⟩) ⟨_, rfl, rfl⟩ iD0 (fun _ => ⟨_, rfl⟩) rfl rfl (Nat.le_of_ble_eq_true rfl) dX0_sizeOfBeech_35 rfl ⟨Nat.zero_le _, Nat.zero_le _⟩ (fun hs18 => ?_)
  refine V_aload_n (k := 1) (q := 39) hC 1 rfl dX0_sizeOfBeech_38 rfl ?_
  refine V_getf (T := TX5) (k := 2) (q := 42) hC uX0_sizeOfBeech_5 rfl (iM5 hj1) rfl (by decide) kX0_sizeOfBeech_f38 rfl dX0_sizeOfBeech_39 rfl ?_
  refine V_iload_n (k := 2) (q := 43) hC 2 rfl dX0_sizeOfBeech_42 rfl ?_
  obtain ⟨g19, hf⟩ := gd_some hf
  refine V_iald (n := 4) (q := 44) hC (iM15 hj1) rfl g19 h2 dX0_sizeOfBeech_43 rfl ?_
  refine V_aload_n (k := 0) (q := 45) hC 0 rfl dX0_sizeOfBeech_44 rfl ?_
  refine V_aload_n (k := 1) (q := 46) hC 1 rfl dX0_sizeOfBeech_45 rfl ?_
  refine V_iload_n (k := 2) (q := 47) hC 2 rfl dX0_sizeOfBeech_46 rfl ?_
  obtain ⟨r20, σ21, hc22, hf⟩ := cl_some hf
  refine V_cvi (st := [iv (σ15 15 j1 v2.toNat)]) (q := 50) (x0 := r20) (σ0 := σ21) hC (sX0_markOfBeech l hG hj1 h2 hs18 hc22) (cwV 2 hC.2.2.2.2.1 gX0_sizeOfBeech_X0_markOfBeech rfl rfl rfl (by decide +kernel) ⟨Nat.le_of_ble_eq_true rfl, Nat.le_of_ble_eq_true rfl⟩) ⟨_, rfl, rfl⟩ iD0 (fun _ => ⟨_, rfl⟩) rfl rfl (Nat.le_of_ble_eq_true rfl) dX0_sizeOfBeech_47 rfl ⟨Nat.zero_le _, Nat.zero_le _⟩ (fun hr23 hs24 => ?_)
  refine V_iadd (q := 51) hC dX0_sizeOfBeech_50 rfl ?_
  refine V_istore (i := 4) (lv' := [(0, rf G 0 0), (1, rf G 5 j1), (2, iv v2), (3, iv v3), (4, iv (wr ((σ15 15 j1 v2.toNat) + r20)))]) (q := 53) hC [1, 2, 3, 4, 0] (by decide) rfl dX0_sizeOfBeech_51 rfl ?_
  refine V_iload_n (k := 3) (q := 54) hC 3 rfl dX0_sizeOfBeech_53 rfl ?_
  refine V_if_eq (tgt := 63) (q := 57) hC h3 dX0_sizeOfBeech_54 (by decide) rfl (fun c25 => ?_) (fun c25 => ?_)
  · replace hf := (if_pos c25).symm.trans hf
    refine V_iload (k := 4) (q := 65) hC 4 rfl dX0_sizeOfBeech_63 rfl ?_
    exact V_iret hC hr hlk (re_1 hf) (re_2 hf) (Rg_wr _) hs24 dX0_sizeOfBeech_65
  · replace hf := (if_neg c25).symm.trans hf
    refine V_iload (k := 4) (q := 59) hC 4 rfl dX0_sizeOfBeech_57 rfl ?_
    refine V_ineg (q := 60) hC dX0_sizeOfBeech_59 rfl ?_
    refine V_goto (tgt := 65) hC dX0_sizeOfBeech_60 (by decide) ?_
    exact V_iret hC hr hlk (re_1 hf) (re_2 hf) (Rg_wr _) hs24 dX0_sizeOfBeech_65
set_option maxHeartbeats 4000000 in
set_option maxRecDepth 100000 in
theorem tjX0_sizeOfBeech_15 {p : Program} {l : Launch} {e : Env} {s : State} {m : MethodId} {args : Array Value} {below : List Frame} {meth : Method} {c : Code} {G : GT} (hG : GI G) (hC : CX p s m args c cX0_sizeOfBeech 5 RX0 wsX0_sizeOfBeech G (AA G)) (hr : meth.sig.returnType = (some .int)) (hlk : meth.locks = false) {j1 : Nat} (hj1 : j1 < 28) {r0 : Int × Hp} {σ : Hp} (hs : RgS σ) {v2 : Int} {w0 : Int} (h2 : Rg v2) (hw0 : Rg w0) (hf : jX0_sizeOfBeech_15 σ j1 v2 w0 = some r0) : VV p l e (headSpec wsX0_sizeOfBeech rmX0_sizeOfBeech).room s m args below meth c (MQ below (QI G r0.1 r0.2) args s 0 0 (AA G)) G (AA G) 0 0 5 σ 15 [(0, rf G 0 0), (1, rf G 5 j1), (2, iv v2)] [iv w0] := by
  unfold jX0_sizeOfBeech_15 at hf
  refine V_istore_n (k := 3) (i := 3) (lv' := [(0, rf G 0 0), (1, rf G 5 j1), (2, iv v2), (3, iv w0)]) (q := 16) hC [1, 2, 3, 0] rfl (by decide) rfl dX0_sizeOfBeech_15 rfl ?_
  refine V_iload_n (k := 3) (q := 17) hC 3 rfl dX0_sizeOfBeech_16 rfl ?_
  refine V_if_eq (tgt := 26) (q := 20) hC hw0 dX0_sizeOfBeech_17 (by decide) rfl (fun c3 => ?_) (fun c3 => ?_)
  · replace hf := (if_pos c3).symm.trans hf
    refine V_lsub [0, 1, 2, 3] rfl ?_
    exact tjX0_sizeOfBeech_26 hG hC hr hlk hj1 hs h2 hw0 hf
  · replace hf := (if_neg c3).symm.trans hf
    refine V_aload_n (k := 0) (q := 21) hC 0 rfl dX0_sizeOfBeech_20 rfl ?_
    refine V_bipush (q := 23) hC (by decide) dX0_sizeOfBeech_21 rfl ?_
    obtain ⟨r4, σ5, hc6, hf⟩ := cl_some hf
    refine V_cvv (st := []) (q := 26) (σ0 := σ5) hC (sX0_note l hG (Rg_c rfl) hs hc6) (cwV 1 hC.2.2.2.2.1 gX0_sizeOfBeech_X0_note rfl rfl rfl (by decide +kernel) ⟨Nat.le_of_ble_eq_true rfl, Nat.le_of_ble_eq_true rfl⟩) ⟨_, rfl, rfl⟩ iD0 (fun _ => ⟨_, rfl⟩) rfl rfl (Nat.le_of_ble_eq_true rfl) dX0_sizeOfBeech_23 rfl ⟨Nat.zero_le _, Nat.zero_le _⟩ (fun hs8 => ?_)
    refine V_lsub [0, 1, 2, 3] rfl ?_
    exact tjX0_sizeOfBeech_26 hG hC hr hlk hj1 hs8 h2 hw0 hf
set_option maxHeartbeats 4000000 in
set_option maxRecDepth 100000 in
theorem sX0_sizeOfBeech (l : Launch) {G : GT} (hG : GI G) {j1 : Nat} {v2 : Int} (hj1 : j1 < 28) (h2 : Rg v2) {σ : Hp} (hs : RgS σ) {r0 : Int × Hp} (hf : fX0_sizeOfBeech σ j1 v2 = some r0) : Cti l G yX0_sizeOfBeech wsX0_sizeOfBeech rmX0_sizeOfBeech [rf G 0 0, rf G 5 j1, iv v2] σ r0.1 r0.2 := by
  unfold fX0_sizeOfBeech at hf
  refine Cti_start (lv := [(0, rf G 0 0), (1, rf G 5 j1), (2, iv v2)]) (ret := (some .int)) (by decide +kernel) rfl hG (Nat.le_of_ble_eq_true rfl) rfl (fun p e s m args below meth c hC hr hlk => ?_)
  refine V_aload_n (k := 1) (q := 1) hC 1 rfl dX0_sizeOfBeech_0 rfl ?_
  refine V_getf (T := TX5) (k := 0) (q := 4) hC uX0_sizeOfBeech_5 rfl (iM5 hj1) rfl (by decide) kX0_sizeOfBeech_f15 rfl dX0_sizeOfBeech_1 rfl ?_
  refine V_iload_n (k := 2) (q := 5) hC 2 rfl dX0_sizeOfBeech_4 rfl ?_
  obtain ⟨g1, hf⟩ := gd_some hf
  refine V_iald (n := 4) (q := 6) hC (iM13 hj1) rfl g1 h2 dX0_sizeOfBeech_5 rfl ?_
  refine V_iconst (q := 7) hC dX0_sizeOfBeech_6 rfl ?_
  refine V_icmp_ne (tgt := 14) (q := 10) hC (hs _ _ _) (Rg_c rfl) dX0_sizeOfBeech_7 (by decide) rfl (fun c2 => ?_) (fun c2 => ?_)
  · replace hf := (if_neg c2).symm.trans hf
    refine V_iconst (q := 15) hC dX0_sizeOfBeech_14 rfl ?_
    refine V_lsub [0, 1, 2] rfl ?_
    exact tjX0_sizeOfBeech_15 hG hC hr hlk hj1 hs h2 (Rg_c rfl) hf
  · replace hf := (if_pos c2).symm.trans hf
    refine V_iconst (q := 11) hC dX0_sizeOfBeech_10 rfl ?_
    refine V_goto (tgt := 15) hC dX0_sizeOfBeech_11 (by decide) ?_
    refine V_lsub [0, 1, 2] rfl ?_
    exact tjX0_sizeOfBeech_15 hG hC hr hlk hj1 hs h2 (Rg_c rfl) hf
/-! X0_sizeOfPine -/
theorem kX0_sizeOfPine_f15 : Cond.fieldLink RX0 15 "BarkNames$Wood" "kindOf" "[I" ∈ wsX0_sizeOfPine := by decide +kernel
theorem uX0_sizeOfPine_5 : ∀ w ∈ u_ws RX5 TX5 12, w ∈ wsX0_sizeOfPine := by decide +kernel
theorem kX0_sizeOfPine_f38 : Cond.fieldLink RX0 38 "BarkNames$Wood" "sunOf" "[I" ∈ wsX0_sizeOfPine := by decide +kernel
abbrev rmX0_sizeOfPine : Room := { frames := 1, cells := 0, slots := 0, locals := 21 }
set_option maxHeartbeats 4000000 in
set_option maxRecDepth 100000 in
theorem tjX0_sizeOfPine_26 {p : Program} {l : Launch} {e : Env} {s : State} {m : MethodId} {args : Array Value} {below : List Frame} {meth : Method} {c : Code} {G : GT} (hG : GI G) (hC : CX p s m args c cX0_sizeOfPine 5 RX0 wsX0_sizeOfPine G (AA G)) (hr : meth.sig.returnType = (some .int)) (hlk : meth.locks = false) {j1 : Nat} (hj1 : j1 < 28) {r0 : Int × Hp} {σ : Hp} (hs : RgS σ) {v2 : Int} {v3 : Int} (h2 : Rg v2) (h3 : Rg v3) (hf : jX0_sizeOfPine_26 σ j1 v2 v3 = some r0) : VV p l e (headSpec wsX0_sizeOfPine rmX0_sizeOfPine).room s m args below meth c (MQ below (QI G r0.1 r0.2) args s 0 0 (AA G)) G (AA G) 0 0 5 σ 26 [(0, rf G 0 0), (1, rf G 5 j1), (2, iv v2), (3, iv v3)] [] := by
  unfold jX0_sizeOfPine_26 at hf
  refine V_aload_n (k := 0) (q := 27) hC 0 rfl dX0_sizeOfPine_26 rfl ?_
  refine V_bipush (q := 29) hC (by decide) dX0_sizeOfPine_27 rfl ?_
  obtain ⟨r9, σ10, hc11, hf⟩ := cl_some hf
  refine V_cvv (st := []) (q := 32) (σ0 := σ10) hC (sX0_note l hG (Rg_c rfl) hs hc11) (cwV 1 hC.2.2.2.2.1 gX0_sizeOfPine_X0_note rfl rfl rfl (by decide +kernel) ⟨Nat.le_of_ble_eq_true rfl, Nat.le_of_ble_eq_true rfl⟩) ⟨_, rfl, rfl⟩ iD0 (fun _ => ⟨_, rfl⟩) rfl rfl (Nat.le_of_ble_eq_true rfl) dX0_sizeOfPine_29 rfl ⟨Nat.zero_le _, Nat.zero_le _⟩ (fun hs13 => ?_)
  refine V_aload_n (k := 0) (q := 33) hC 0 rfl dX0_sizeOfPine_32 rfl ?_
  refine V_bipush (q := 35) hC (by decide) dX0_sizeOfPine_33 rfl ?_
  obtain ⟨r14, σ15, hc16, hf⟩ := cl_some hf
  refine V_cvv (st := []) (q := 38) (σ0 := σ15) hC (sX0_note l hG (Rg_c rfl) hs13 hc16) (cwV 1 hC.2.2.2.2.1 gX0_sizeOfPine_X0_note rfl rfl rfl (by decide +kernel) ⟨Nat.le_of_ble_eq_true rfl, Nat.le_of_ble_eq_true rfl⟩) ⟨_, rfl, rfl⟩ iD0 (fun _ => ⟨_, rfl⟩) rfl rfl (Nat.le_of_ble_eq_true rfl) dX0_sizeOfPine_35 rfl ⟨Nat.zero_le _, Nat.zero_le _⟩ (fun hs18 => ?_)
  refine V_aload_n (k := 1) (q := 39) hC 1 rfl dX0_sizeOfPine_38 rfl ?_
  refine V_getf (T := TX5) (k := 2) (q := 42) hC uX0_sizeOfPine_5 rfl (iM5 hj1) rfl (by decide) kX0_sizeOfPine_f38 rfl dX0_sizeOfPine_39 rfl ?_
  refine V_iload_n (k := 2) (q := 43) hC 2 rfl dX0_sizeOfPine_42 rfl ?_
  obtain ⟨g19, hf⟩ := gd_some hf
  refine V_iald (n := 4) (q := 44) hC (iM15 hj1) rfl g19 h2 dX0_sizeOfPine_43 rfl ?_
  refine V_bipush (q := 46) hC (by decide) dX0_sizeOfPine_44 rfl ?_
  refine V_isub (q := 47) hC dX0_sizeOfPine_46 rfl ?_
  refine V_istore (i := 4) (lv' := [(0, rf G 0 0), (1, rf G 5 j1), (2, iv v2), (3, iv v3), (4, iv (wr ((σ15 15 j1 v2.toNat) - 100)))]) (q := 49) hC [1, 2, 3, 4, 0] (by decide) rfl dX0_sizeOfPine_47 rfl ?_
  refine V_iload_n (k := 3) (q := 50) hC 3 rfl dX0_sizeOfPine_49 rfl ?_
  refine V_if_eq (tgt := 60) (q := 53) hC h3 dX0_sizeOfPine_50 (by decide) rfl (fun c20 => ?_) (fun c20 => ?_)
  · replace hf := (if_pos c20).symm.trans hf
    refine V_iload (k := 4) (q := 62) hC 4 rfl dX0_sizeOfPine_60 rfl ?_
    exact V_iret hC hr hlk (re_1 hf) (re_2 hf) (Rg_wr _) hs18 dX0_sizeOfPine_62
  · replace hf := (if_neg c20).symm.trans hf
    refine V_iconst (q := 54) hC dX0_sizeOfPine_53 rfl ?_
    refine V_iload (k := 4) (q := 56) hC 4 rfl dX0_sizeOfPine_54 rfl ?_
    refine V_imul (q := 57) hC dX0_sizeOfPine_56 rfl ?_
    refine V_goto (tgt := 62) hC dX0_sizeOfPine_57 (by decide) ?_
    exact V_iret hC hr hlk (re_1 hf) (re_2 hf) (Rg_wr _) hs18 dX0_sizeOfPine_62
set_option maxHeartbeats 4000000 in
set_option maxRecDepth 100000 in
theorem tjX0_sizeOfPine_15 {p : Program} {l : Launch} {e : Env} {s : State} {m : MethodId} {args : Array Value} {below : List Frame} {meth : Method} {c : Code} {G : GT} (hG : GI G) (hC : CX p s m args c cX0_sizeOfPine 5 RX0 wsX0_sizeOfPine G (AA G)) (hr : meth.sig.returnType = (some .int)) (hlk : meth.locks = false) {j1 : Nat} (hj1 : j1 < 28) {r0 : Int × Hp} {σ : Hp} (hs : RgS σ) {v2 : Int} {w0 : Int} (h2 : Rg v2) (hw0 : Rg w0) (hf : jX0_sizeOfPine_15 σ j1 v2 w0 = some r0) : VV p l e (headSpec wsX0_sizeOfPine rmX0_sizeOfPine).room s m args below meth c (MQ below (QI G r0.1 r0.2) args s 0 0 (AA G)) G (AA G) 0 0 5 σ 15 [(0, rf G 0 0), (1, rf G 5 j1), (2, iv v2)] [iv w0] := by
  unfold jX0_sizeOfPine_15 at hf
  refine V_istore_n (k := 3) (i := 3) (lv' := [(0, rf G 0 0), (1, rf G 5 j1), (2, iv v2), (3, iv w0)]) (q := 16) hC [1, 2, 3, 0] rfl (by decide) rfl dX0_sizeOfPine_15 rfl ?_
  refine V_iload_n (k := 3) (q := 17) hC 3 rfl dX0_sizeOfPine_16 rfl ?_
  refine V_if_eq (tgt := 26) (q := 20) hC hw0 dX0_sizeOfPine_17 (by decide) rfl (fun c3 => ?_) (fun c3 => ?_)
  · replace hf := (if_pos c3).symm.trans hf
    refine V_lsub [0, 1, 2, 3] rfl ?_
    exact tjX0_sizeOfPine_26 hG hC hr hlk hj1 hs h2 hw0 hf
  · replace hf := (if_neg c3).symm.trans hf
    refine V_aload_n (k := 0) (q := 21) hC 0 rfl dX0_sizeOfPine_20 rfl ?_
    refine V_bipush (q := 23) hC (by decide) dX0_sizeOfPine_21 rfl ?_
    obtain ⟨r4, σ5, hc6, hf⟩ := cl_some hf
    refine V_cvv (st := []) (q := 26) (σ0 := σ5) hC (sX0_note l hG (Rg_c rfl) hs hc6) (cwV 1 hC.2.2.2.2.1 gX0_sizeOfPine_X0_note rfl rfl rfl (by decide +kernel) ⟨Nat.le_of_ble_eq_true rfl, Nat.le_of_ble_eq_true rfl⟩) ⟨_, rfl, rfl⟩ iD0 (fun _ => ⟨_, rfl⟩) rfl rfl (Nat.le_of_ble_eq_true rfl) dX0_sizeOfPine_23 rfl ⟨Nat.zero_le _, Nat.zero_le _⟩ (fun hs8 => ?_)
    refine V_lsub [0, 1, 2, 3] rfl ?_
    exact tjX0_sizeOfPine_26 hG hC hr hlk hj1 hs8 h2 hw0 hf
set_option maxHeartbeats 4000000 in
set_option maxRecDepth 100000 in
theorem sX0_sizeOfPine (l : Launch) {G : GT} (hG : GI G) {j1 : Nat} {v2 : Int} (hj1 : j1 < 28) (h2 : Rg v2) {σ : Hp} (hs : RgS σ) {r0 : Int × Hp} (hf : fX0_sizeOfPine σ j1 v2 = some r0) : Cti l G yX0_sizeOfPine wsX0_sizeOfPine rmX0_sizeOfPine [rf G 0 0, rf G 5 j1, iv v2] σ r0.1 r0.2 := by
  unfold fX0_sizeOfPine at hf
  refine Cti_start (lv := [(0, rf G 0 0), (1, rf G 5 j1), (2, iv v2)]) (ret := (some .int)) (by decide +kernel) rfl hG (Nat.le_of_ble_eq_true rfl) rfl (fun p e s m args below meth c hC hr hlk => ?_)
  refine V_aload_n (k := 1) (q := 1) hC 1 rfl dX0_sizeOfPine_0 rfl ?_
  refine V_getf (T := TX5) (k := 0) (q := 4) hC uX0_sizeOfPine_5 rfl (iM5 hj1) rfl (by decide) kX0_sizeOfPine_f15 rfl dX0_sizeOfPine_1 rfl ?_
  refine V_iload_n (k := 2) (q := 5) hC 2 rfl dX0_sizeOfPine_4 rfl ?_
  obtain ⟨g1, hf⟩ := gd_some hf
  refine V_iald (n := 4) (q := 6) hC (iM13 hj1) rfl g1 h2 dX0_sizeOfPine_5 rfl ?_
  refine V_iconst (q := 7) hC dX0_sizeOfPine_6 rfl ?_
  refine V_icmp_ne (tgt := 14) (q := 10) hC (hs _ _ _) (Rg_c rfl) dX0_sizeOfPine_7 (by decide) rfl (fun c2 => ?_) (fun c2 => ?_)
  · replace hf := (if_neg c2).symm.trans hf
    refine V_iconst (q := 15) hC dX0_sizeOfPine_14 rfl ?_
    refine V_lsub [0, 1, 2] rfl ?_
    exact tjX0_sizeOfPine_15 hG hC hr hlk hj1 hs h2 (Rg_c rfl) hf
  · replace hf := (if_pos c2).symm.trans hf
    refine V_iconst (q := 11) hC dX0_sizeOfPine_10 rfl ?_
    refine V_goto (tgt := 15) hC dX0_sizeOfPine_11 (by decide) ?_
    refine V_lsub [0, 1, 2] rfl ?_
    exact tjX0_sizeOfPine_15 hG hC hr hlk hj1 hs h2 (Rg_c rfl) hf
/-! X0_sizeOf -/
theorem kX0_sizeOf_f15 : Cond.fieldLink RX0 15 "BarkNames$Wood" "kindOf" "[I" ∈ wsX0_sizeOf := by decide +kernel
theorem uX0_sizeOf_5 : ∀ w ∈ u_ws RX5 TX5 12, w ∈ wsX0_sizeOf := by decide +kernel
theorem kX0_sizeOf_iX6 : Cond.initialized RX6 ∈ wsX0_sizeOf := by decide +kernel
theorem kX0_sizeOf_sX6_isOfKind : Cond.static yX6_isOfKind ∈ wsX0_sizeOf := by decide +kernel
abbrev rmX0_sizeOf : Room := { frames := 3, cells := 0, slots := 0, locals := 69 }
set_option maxHeartbeats 4000000 in
set_option maxRecDepth 100000 in
theorem sX0_sizeOf (l : Launch) {G : GT} (hG : GI G) {j1 : Nat} {v2 : Int} (hj1 : j1 < 28) (h2 : Rg v2) {σ : Hp} (hs : RgS σ) {r0 : Int × Hp} (hf : fX0_sizeOf σ j1 v2 = some r0) : Cti l G yX0_sizeOf wsX0_sizeOf rmX0_sizeOf [rf G 0 0, rf G 5 j1, iv v2] σ r0.1 r0.2 := by
  unfold fX0_sizeOf at hf
  refine Cti_start (lv := [(0, rf G 0 0), (1, rf G 5 j1), (2, iv v2)]) (ret := (some .int)) (by decide +kernel) rfl hG (Nat.le_of_ble_eq_true rfl) rfl (fun p e s m args below meth c hC hr hlk => ?_)
  refine V_aload_n (k := 1) (q := 1) hC 1 rfl dX0_sizeOf_0 rfl ?_
  refine V_getf (T := TX5) (k := 0) (q := 4) hC uX0_sizeOf_5 rfl (iM5 hj1) rfl (by decide) kX0_sizeOf_f15 rfl dX0_sizeOf_1 rfl ?_
  refine V_iload_n (k := 2) (q := 5) hC 2 rfl dX0_sizeOf_4 rfl ?_
  obtain ⟨g1, hf⟩ := gd_some hf
  refine V_iald (n := 4) (q := 6) hC (iM13 hj1) rfl g1 h2 dX0_sizeOf_5 rfl ?_
  refine V_iconst (q := 7) hC dX0_sizeOf_6 rfl ?_
  obtain ⟨r2, σ3, hc4, hf⟩ := cl_some hf
  refine V_cni (st := []) (q := 10) (x0 := r2) (σ0 := σ3) hC (sX6_isOfKind l hG (hs _ _ _) (Rg_c rfl) hs hc4) ⟨va_cnB 2 hC.2.2.2.2.1 gX0_sizeOf_X6_isOfKind_n20 rfl rfl rfl (hC.2.2.2.2.2.1.2.1 _ (List.mem_of_getElem? (i := 8) rfl)) (hC.2.2.2.2.1 _ kX0_sizeOf_iX6) (by decide +kernel) ⟨Nat.le_of_ble_eq_true rfl, Nat.le_of_ble_eq_true rfl⟩, hC.2.2.2.2.1 _ kX0_sizeOf_sX6_isOfKind, trivial⟩ rfl rfl (Nat.le_of_ble_eq_true rfl) dX0_sizeOf_7 rfl ⟨Nat.zero_le _, Nat.zero_le _⟩ (fun hr5 hs6 => ?_)
  refine V_if_eq (tgt := 20) (q := 13) hC hr5 dX0_sizeOf_10 (by decide) rfl (fun c7 => ?_) (fun c7 => ?_)
  · replace hf := (if_pos c7).symm.trans hf
    refine V_aload_n (k := 0) (q := 21) hC 0 rfl dX0_sizeOf_20 rfl ?_
    refine V_aload_n (k := 1) (q := 22) hC 1 rfl dX0_sizeOf_21 rfl ?_
    refine V_iload_n (k := 2) (q := 23) hC 2 rfl dX0_sizeOf_22 rfl ?_
    obtain ⟨r8, σ9, hc10, hf⟩ := cl_some hf
    refine V_cvi (st := []) (q := 26) (x0 := r8) (σ0 := σ9) hC (sX0_sizeOfPine l hG hj1 h2 hs6 hc10) (cwV 2 hC.2.2.2.2.1 gX0_sizeOf_X0_sizeOfPine rfl rfl rfl (by decide +kernel) ⟨Nat.le_of_ble_eq_true rfl, Nat.le_of_ble_eq_true rfl⟩) ⟨_, rfl, rfl⟩ iD0 (fun _ => ⟨_, rfl⟩) rfl rfl (Nat.le_of_ble_eq_true rfl) dX0_sizeOf_23 rfl ⟨Nat.zero_le _, Nat.zero_le _⟩ (fun hr11 hs12 => ?_)
    exact V_iret hC hr hlk (re_1 hf) (re_2 hf) hr11 hs12 dX0_sizeOf_26
  · replace hf := (if_neg c7).symm.trans hf
    refine V_aload_n (k := 0) (q := 14) hC 0 rfl dX0_sizeOf_13 rfl ?_
    refine V_aload_n (k := 1) (q := 15) hC 1 rfl dX0_sizeOf_14 rfl ?_
    refine V_iload_n (k := 2) (q := 16) hC 2 rfl dX0_sizeOf_15 rfl ?_
    obtain ⟨r13, σ14, hc15, hf⟩ := cl_some hf
    refine V_cvi (st := []) (q := 19) (x0 := r13) (σ0 := σ14) hC (sX0_sizeOfBeech l hG hj1 h2 hs6 hc15) (cwV 2 hC.2.2.2.2.1 gX0_sizeOf_X0_sizeOfBeech rfl rfl rfl (by decide +kernel) ⟨Nat.le_of_ble_eq_true rfl, Nat.le_of_ble_eq_true rfl⟩) ⟨_, rfl, rfl⟩ iD0 (fun _ => ⟨_, rfl⟩) rfl rfl (Nat.le_of_ble_eq_true rfl) dX0_sizeOf_16 rfl ⟨Nat.zero_le _, Nat.zero_le _⟩ (fun hr16 hs17 => ?_)
    exact V_iret hC hr hlk (re_1 hf) (re_2 hf) hr16 hs17 dX0_sizeOf_19
/-! X0_markOf -/
theorem kX0_markOf_f15 : Cond.fieldLink RX0 15 "BarkNames$Wood" "kindOf" "[I" ∈ wsX0_markOf := by decide +kernel
theorem uX0_markOf_5 : ∀ w ∈ u_ws RX5 TX5 12, w ∈ wsX0_markOf := by decide +kernel
theorem kX0_markOf_iX6 : Cond.initialized RX6 ∈ wsX0_markOf := by decide +kernel
theorem kX0_markOf_sX6_isOfKind : Cond.static yX6_isOfKind ∈ wsX0_markOf := by decide +kernel
abbrev rmX0_markOf : Room := { frames := 2, cells := 0, slots := 0, locals := 45 }
set_option maxHeartbeats 4000000 in
set_option maxRecDepth 100000 in
theorem sX0_markOf (l : Launch) {G : GT} (hG : GI G) {j1 : Nat} {v2 : Int} (hj1 : j1 < 28) (h2 : Rg v2) {σ : Hp} (hs : RgS σ) {r0 : Int × Hp} (hf : fX0_markOf σ j1 v2 = some r0) : Cti l G yX0_markOf wsX0_markOf rmX0_markOf [rf G 0 0, rf G 5 j1, iv v2] σ r0.1 r0.2 := by
  unfold fX0_markOf at hf
  refine Cti_start (lv := [(0, rf G 0 0), (1, rf G 5 j1), (2, iv v2)]) (ret := (some .int)) (by decide +kernel) rfl hG (Nat.le_of_ble_eq_true rfl) rfl (fun p e s m args below meth c hC hr hlk => ?_)
  refine V_aload_n (k := 1) (q := 1) hC 1 rfl dX0_markOf_0 rfl ?_
  refine V_getf (T := TX5) (k := 0) (q := 4) hC uX0_markOf_5 rfl (iM5 hj1) rfl (by decide) kX0_markOf_f15 rfl dX0_markOf_1 rfl ?_
  refine V_iload_n (k := 2) (q := 5) hC 2 rfl dX0_markOf_4 rfl ?_
  obtain ⟨g1, hf⟩ := gd_some hf
  refine V_iald (n := 4) (q := 6) hC (iM13 hj1) rfl g1 h2 dX0_markOf_5 rfl ?_
  refine V_iconst (q := 7) hC dX0_markOf_6 rfl ?_
  obtain ⟨r2, σ3, hc4, hf⟩ := cl_some hf
  refine V_cni (st := []) (q := 10) (x0 := r2) (σ0 := σ3) hC (sX6_isOfKind l hG (hs _ _ _) (Rg_c rfl) hs hc4) ⟨va_cnB 2 hC.2.2.2.2.1 gX0_markOf_X6_isOfKind_n20 rfl rfl rfl (hC.2.2.2.2.2.1.2.1 _ (List.mem_of_getElem? (i := 8) rfl)) (hC.2.2.2.2.1 _ kX0_markOf_iX6) (by decide +kernel) ⟨Nat.le_of_ble_eq_true rfl, Nat.le_of_ble_eq_true rfl⟩, hC.2.2.2.2.1 _ kX0_markOf_sX6_isOfKind, trivial⟩ rfl rfl (Nat.le_of_ble_eq_true rfl) dX0_markOf_7 rfl ⟨Nat.zero_le _, Nat.zero_le _⟩ (fun hr5 hs6 => ?_)
  refine V_if_eq (tgt := 20) (q := 13) hC hr5 dX0_markOf_10 (by decide) rfl (fun c7 => ?_) (fun c7 => ?_)
  · replace hf := (if_pos c7).symm.trans hf
    refine V_aload_n (k := 0) (q := 21) hC 0 rfl dX0_markOf_20 rfl ?_
    refine V_bipush (q := 23) hC (by decide) dX0_markOf_21 rfl ?_
    obtain ⟨r8, σ9, hc10, hf⟩ := cl_some hf
    refine V_cvv (st := []) (q := 26) (σ0 := σ9) hC (sX0_note l hG (Rg_c rfl) hs6 hc10) (cwV 1 hC.2.2.2.2.1 gX0_markOf_X0_note rfl rfl rfl (by decide +kernel) ⟨Nat.le_of_ble_eq_true rfl, Nat.le_of_ble_eq_true rfl⟩) ⟨_, rfl, rfl⟩ iD0 (fun _ => ⟨_, rfl⟩) rfl rfl (Nat.le_of_ble_eq_true rfl) dX0_markOf_23 rfl ⟨Nat.zero_le _, Nat.zero_le _⟩ (fun hs12 => ?_)
    refine V_aload_n (k := 0) (q := 27) hC 0 rfl dX0_markOf_26 rfl ?_
    refine V_bipush (q := 29) hC (by decide) dX0_markOf_27 rfl ?_
    obtain ⟨r13, σ14, hc15, hf⟩ := cl_some hf
    refine V_cvv (st := []) (q := 32) (σ0 := σ14) hC (sX0_note l hG (Rg_c rfl) hs12 hc15) (cwV 1 hC.2.2.2.2.1 gX0_markOf_X0_note rfl rfl rfl (by decide +kernel) ⟨Nat.le_of_ble_eq_true rfl, Nat.le_of_ble_eq_true rfl⟩) ⟨_, rfl, rfl⟩ iD0 (fun _ => ⟨_, rfl⟩) rfl rfl (Nat.le_of_ble_eq_true rfl) dX0_markOf_29 rfl ⟨Nat.zero_le _, Nat.zero_le _⟩ (fun hs17 => ?_)
    refine V_iload_n (k := 2) (q := 33) hC 2 rfl dX0_markOf_32 rfl ?_
    refine V_aload_n (k := 0) (q := 34) hC 0 rfl dX0_markOf_33 rfl ?_
    refine V_aload_n (k := 1) (q := 35) hC 1 rfl dX0_markOf_34 rfl ?_
    refine V_iload_n (k := 2) (q := 36) hC 2 rfl dX0_markOf_35 rfl ?_
    obtain ⟨r18, σ19, hc20, hf⟩ := cl_some hf
    refine V_cvi (st := [iv v2]) (q := 39) (x0 := r18) (σ0 := σ19) hC (sX0_sizeOfPine l hG hj1 h2 hs17 hc20) (cwV 2 hC.2.2.2.2.1 gX0_markOf_X0_sizeOfPine rfl rfl rfl (by decide +kernel) ⟨Nat.le_of_ble_eq_true rfl, Nat.le_of_ble_eq_true rfl⟩) ⟨_, rfl, rfl⟩ iD0 (fun _ => ⟨_, rfl⟩) rfl rfl (Nat.le_of_ble_eq_true rfl) dX0_markOf_36 rfl ⟨Nat.zero_le _, Nat.zero_le _⟩ (fun hr21 hs22 => ?_)
    refine V_isub (q := 40) hC dX0_markOf_39 rfl ?_
    exact V_iret hC hr hlk (re_1 hf) (re_2 hf) (Rg_wr _) hs22 dX0_markOf_40
  · replace hf := (if_neg c7).symm.trans hf
    refine V_aload_n (k := 0) (q := 14) hC 0 rfl dX0_markOf_13 rfl ?_
    refine V_aload_n (k := 1) (q := 15) hC 1 rfl dX0_markOf_14 rfl ?_
    refine V_iload_n (k := 2) (q := 16) hC 2 rfl dX0_markOf_15 rfl ?_
    obtain ⟨r23, σ24, hc25, hf⟩ := cl_some hf
    refine V_cvi (st := []) (q := 19) (x0 := r23) (σ0 := σ24) hC (sX0_markOfBeech l hG hj1 h2 hs6 hc25) (cwV 2 hC.2.2.2.2.1 gX0_markOf_X0_markOfBeech rfl rfl rfl (by decide +kernel) ⟨Nat.le_of_ble_eq_true rfl, Nat.le_of_ble_eq_true rfl⟩) ⟨_, rfl, rfl⟩ iD0 (fun _ => ⟨_, rfl⟩) rfl rfl (Nat.le_of_ble_eq_true rfl) dX0_markOf_16 rfl ⟨Nat.zero_le _, Nat.zero_le _⟩ (fun hr26 hs27 => ?_)
    exact V_iret hC hr hlk (re_1 hf) (re_2 hf) hr26 hs27 dX0_markOf_19
/-! X5_become -/
theorem kX5_become_f33 : Cond.fieldLink RX5 33 "BarkNames$Wood" "told" "Z" ∈ wsX5_become := by decide +kernel
theorem uX5_become_5 : ∀ w ∈ u_ws RX5 TX5 12, w ∈ wsX5_become := by decide +kernel
theorem kX5_become_f37 : Cond.fieldLink RX5 37 "BarkNames$Wood" "wide" "I" ∈ wsX5_become := by decide +kernel
theorem kX5_become_f41 : Cond.fieldLink RX5 41 "BarkNames$Wood" "year" "I" ∈ wsX5_become := by decide +kernel
theorem kX5_become_f44 : Cond.fieldLink RX5 44 "BarkNames$Wood" "treeCount" "I" ∈ wsX5_become := by decide +kernel
theorem kX5_become_f47 : Cond.fieldLink RX5 47 "BarkNames$Wood" "cutCount" "I" ∈ wsX5_become := by decide +kernel
theorem kX5_become_f9 : Cond.fieldLink RX5 9 "BarkNames$Wood" "kindOf" "[I" ∈ wsX5_become := by decide +kernel
theorem kX5_become_m50 : Cond.methodLink RX5 50 arraycopyName ∈ wsX5_become := by decide +kernel
theorem kX5_become_nac : Cond.native arraycopyName ∈ wsX5_become := by decide +kernel
theorem kX5_become_sac : Cond.static arraycopyName ∈ wsX5_become := by decide +kernel
theorem kX5_become_iSys : Cond.initialized "java/lang/System" ∈ wsX5_become := by decide +kernel
theorem kX5_become_f15 : Cond.fieldLink RX5 15 "BarkNames$Wood" "girthOf" "[I" ∈ wsX5_become := by decide +kernel
theorem kX5_become_f18 : Cond.fieldLink RX5 18 "BarkNames$Wood" "sunOf" "[I" ∈ wsX5_become := by decide +kernel
theorem kX5_become_f21 : Cond.fieldLink RX5 21 "BarkNames$Wood" "treeOf" "[I" ∈ wsX5_become := by decide +kernel
theorem kX5_become_f24 : Cond.fieldLink RX5 24 "BarkNames$Wood" "letterOf" "[I" ∈ wsX5_become := by decide +kernel
theorem kX5_become_f27 : Cond.fieldLink RX5 27 "BarkNames$Wood" "placeOf" "[I" ∈ wsX5_become := by decide +kernel
theorem kX5_become_f30 : Cond.fieldLink RX5 30 "BarkNames$Wood" "depthOf" "[I" ∈ wsX5_become := by decide +kernel
abbrev rmX5_become : Room := { frames := 1, cells := 0, slots := 0, locals := 26 }
set_option maxHeartbeats 4000000 in
set_option maxRecDepth 100000 in
theorem sX5_become (l : Launch) {G : GT} (hG : GI G) {j0 : Nat} {j1 : Nat} (hj0 : j0 < 28) (hj1 : j1 < 28) {σ : Hp} (hs : RgS σ) {r0 : Int × Hp} (hf : fX5_become σ j0 j1 = some r0) : Ctv l G yX5_become wsX5_become rmX5_become [rf G 5 j0, rf G 5 j1] σ r0.2 := by
  unfold fX5_become at hf
  refine Ctv_start (lv := [(0, rf G 5 j0), (1, rf G 5 j1)]) (ret := none) (by decide +kernel) rfl hG (Nat.le_of_ble_eq_true rfl) rfl (fun p e s m args below meth c hC hr hlk => ?_)
  refine V_aload_n (k := 0) (q := 1) hC 0 rfl dX5_become_0 rfl ?_
  refine V_aload_n (k := 1) (q := 2) hC 1 rfl dX5_become_1 rfl ?_
  refine V_getf (T := TX5) (k := 7) (q := 5) hC uX5_become_5 rfl (iM5 hj1) rfl (by decide) kX5_become_f33 rfl dX5_become_2 rfl ?_
  obtain ⟨g1, hf⟩ := gd_some hf
  obtain ⟨σ2, e3, hf⟩ := sq_ex hf
  have hs4 : RgS σ2 := by rw [e3]; exact RgS_hup hs (hs _ _ _)
  refine V_putf (T := TX5) (k := 7) (ty := .boolean) (q := 8) hC uX5_become_5 rfl tyX5 tyX5_ok nmX5 (iM5 hj0) rfl (pf_5_7 _ _ _ _ rfl) (by decide) kX5_become_f33 rfl (by decide +kernel) (nz_b g1) (fz_b g1) (Nat.le_of_ble_eq_true rfl) e3 dX5_become_5 rfl ?_
  refine V_aload_n (k := 0) (q := 9) hC 0 rfl dX5_become_8 rfl ?_
  refine V_aload_n (k := 1) (q := 10) hC 1 rfl dX5_become_9 rfl ?_
  refine V_getf (T := TX5) (k := 8) (q := 13) hC uX5_become_5 rfl (iM5 hj1) rfl (by decide) kX5_become_f37 rfl dX5_become_10 rfl ?_
  obtain ⟨σ5, e6, hf⟩ := sq_ex hf
  have hs7 : RgS σ5 := by rw [e6]; exact RgS_hup hs4 (hs4 _ _ _)
  refine V_putf (T := TX5) (k := 8) (ty := .int) (q := 16) hC uX5_become_5 rfl tyX5 tyX5_ok nmX5 (iM5 hj0) rfl (pf_5_8 _ _ _ _ rfl) (by decide) kX5_become_f37 rfl (by decide +kernel) rfl rfl (Nat.le_of_ble_eq_true rfl) e6 dX5_become_13 rfl ?_
  refine V_aload_n (k := 0) (q := 17) hC 0 rfl dX5_become_16 rfl ?_
  refine V_aload_n (k := 1) (q := 18) hC 1 rfl dX5_become_17 rfl ?_
  refine V_getf (T := TX5) (k := 9) (q := 21) hC uX5_become_5 rfl (iM5 hj1) rfl (by decide) kX5_become_f41 rfl dX5_become_18 rfl ?_
  obtain ⟨σ8, e9, hf⟩ := sq_ex hf
  have hs10 : RgS σ8 := by rw [e9]; exact RgS_hup hs7 (hs7 _ _ _)
  refine V_putf (T := TX5) (k := 9) (ty := .int) (q := 24) hC uX5_become_5 rfl tyX5 tyX5_ok nmX5 (iM5 hj0) rfl (pf_5_9 _ _ _ _ rfl) (by decide) kX5_become_f41 rfl (by decide +kernel) rfl rfl (Nat.le_of_ble_eq_true rfl) e9 dX5_become_21 rfl ?_
  refine V_aload_n (k := 0) (q := 25) hC 0 rfl dX5_become_24 rfl ?_
  refine V_aload_n (k := 1) (q := 26) hC 1 rfl dX5_become_25 rfl ?_
  refine V_getf (T := TX5) (k := 10) (q := 29) hC uX5_become_5 rfl (iM5 hj1) rfl (by decide) kX5_become_f44 rfl dX5_become_26 rfl ?_
  obtain ⟨σ11, e12, hf⟩ := sq_ex hf
  have hs13 : RgS σ11 := by rw [e12]; exact RgS_hup hs10 (hs10 _ _ _)
  refine V_putf (T := TX5) (k := 10) (ty := .int) (q := 32) hC uX5_become_5 rfl tyX5 tyX5_ok nmX5 (iM5 hj0) rfl (pf_5_10 _ _ _ _ rfl) (by decide) kX5_become_f44 rfl (by decide +kernel) rfl rfl (Nat.le_of_ble_eq_true rfl) e12 dX5_become_29 rfl ?_
  refine V_aload_n (k := 0) (q := 33) hC 0 rfl dX5_become_32 rfl ?_
  refine V_aload_n (k := 1) (q := 34) hC 1 rfl dX5_become_33 rfl ?_
  refine V_getf (T := TX5) (k := 11) (q := 37) hC uX5_become_5 rfl (iM5 hj1) rfl (by decide) kX5_become_f47 rfl dX5_become_34 rfl ?_
  obtain ⟨σ14, e15, hf⟩ := sq_ex hf
  have hs16 : RgS σ14 := by rw [e15]; exact RgS_hup hs13 (hs13 _ _ _)
  refine V_putf (T := TX5) (k := 11) (ty := .int) (q := 40) hC uX5_become_5 rfl tyX5 tyX5_ok nmX5 (iM5 hj0) rfl (pf_5_11 _ _ _ _ rfl) (by decide) kX5_become_f47 rfl (by decide +kernel) rfl rfl (Nat.le_of_ble_eq_true rfl) e15 dX5_become_37 rfl ?_
  refine V_aload_n (k := 1) (q := 41) hC 1 rfl dX5_become_40 rfl ?_
  refine V_getf (T := TX5) (k := 0) (q := 44) hC uX5_become_5 rfl (iM5 hj1) rfl (by decide) kX5_become_f9 rfl dX5_become_41 rfl ?_
  refine V_iconst (q := 45) hC dX5_become_44 rfl ?_
  refine V_aload_n (k := 0) (q := 46) hC 0 rfl dX5_become_45 rfl ?_
  refine V_getf (T := TX5) (k := 0) (q := 49) hC uX5_become_5 rfl (iM5 hj0) rfl (by decide) kX5_become_f9 rfl dX5_become_46 rfl ?_
  refine V_iconst (q := 50) hC dX5_become_49 rfl ?_
  refine V_iconst (q := 51) hC dX5_become_50 rfl ?_
  obtain ⟨σ17, e18, hf⟩ := sq_ex hf
  have hs19 : RgS σ17 := by rw [e18]; exact RgS_hcp hs16
  refine V_acopy (n1 := 4) (n2 := 4) (q := 54) hC (iM13 hj1) (iM13 hj0) rfl rfl (by decide) (by decide) ⟨by decide, by decide, by decide, by decide, by decide⟩ (Rg_c rfl) (Rg_c rfl) (Rg_c rfl) kX5_become_m50 kX5_become_nac kX5_become_sac kX5_become_iSys ⟨Nat.le_of_ble_eq_true rfl, Nat.le_of_ble_eq_true rfl⟩ e18 dX5_become_51 rfl ?_
  refine V_aload_n (k := 1) (q := 55) hC 1 rfl dX5_become_54 rfl ?_
  refine V_getf (T := TX5) (k := 1) (q := 58) hC uX5_become_5 rfl (iM5 hj1) rfl (by decide) kX5_become_f15 rfl dX5_become_55 rfl ?_
  refine V_iconst (q := 59) hC dX5_become_58 rfl ?_
  refine V_aload_n (k := 0) (q := 60) hC 0 rfl dX5_become_59 rfl ?_
  refine V_getf (T := TX5) (k := 1) (q := 63) hC uX5_become_5 rfl (iM5 hj0) rfl (by decide) kX5_become_f15 rfl dX5_become_60 rfl ?_
  refine V_iconst (q := 64) hC dX5_become_63 rfl ?_
  refine V_iconst (q := 65) hC dX5_become_64 rfl ?_
  obtain ⟨σ20, e21, hf⟩ := sq_ex hf
  have hs22 : RgS σ20 := by rw [e21]; exact RgS_hcp hs19
  refine V_acopy (n1 := 4) (n2 := 4) (q := 68) hC (iM14 hj1) (iM14 hj0) rfl rfl (by decide) (by decide) ⟨by decide, by decide, by decide, by decide, by decide⟩ (Rg_c rfl) (Rg_c rfl) (Rg_c rfl) kX5_become_m50 kX5_become_nac kX5_become_sac kX5_become_iSys ⟨Nat.le_of_ble_eq_true rfl, Nat.le_of_ble_eq_true rfl⟩ e21 dX5_become_65 rfl ?_
  refine V_aload_n (k := 1) (q := 69) hC 1 rfl dX5_become_68 rfl ?_
  refine V_getf (T := TX5) (k := 2) (q := 72) hC uX5_become_5 rfl (iM5 hj1) rfl (by decide) kX5_become_f18 rfl dX5_become_69 rfl ?_
  refine V_iconst (q := 73) hC dX5_become_72 rfl ?_
  refine V_aload_n (k := 0) (q := 74) hC 0 rfl dX5_become_73 rfl ?_
  refine V_getf (T := TX5) (k := 2) (q := 77) hC uX5_become_5 rfl (iM5 hj0) rfl (by decide) kX5_become_f18 rfl dX5_become_74 rfl ?_
  refine V_iconst (q := 78) hC dX5_become_77 rfl ?_
  refine V_iconst (q := 79) hC dX5_become_78 rfl ?_
  obtain ⟨σ23, e24, hf⟩ := sq_ex hf
  have hs25 : RgS σ23 := by rw [e24]; exact RgS_hcp hs22
  refine V_acopy (n1 := 4) (n2 := 4) (q := 82) hC (iM15 hj1) (iM15 hj0) rfl rfl (by decide) (by decide) ⟨by decide, by decide, by decide, by decide, by decide⟩ (Rg_c rfl) (Rg_c rfl) (Rg_c rfl) kX5_become_m50 kX5_become_nac kX5_become_sac kX5_become_iSys ⟨Nat.le_of_ble_eq_true rfl, Nat.le_of_ble_eq_true rfl⟩ e24 dX5_become_79 rfl ?_
  refine V_aload_n (k := 1) (q := 83) hC 1 rfl dX5_become_82 rfl ?_
  refine V_getf (T := TX5) (k := 3) (q := 86) hC uX5_become_5 rfl (iM5 hj1) rfl (by decide) kX5_become_f21 rfl dX5_become_83 rfl ?_
  refine V_iconst (q := 87) hC dX5_become_86 rfl ?_
  refine V_aload_n (k := 0) (q := 88) hC 0 rfl dX5_become_87 rfl ?_
  refine V_getf (T := TX5) (k := 3) (q := 91) hC uX5_become_5 rfl (iM5 hj0) rfl (by decide) kX5_become_f21 rfl dX5_become_88 rfl ?_
  refine V_iconst (q := 92) hC dX5_become_91 rfl ?_
  refine V_bipush (q := 94) hC (by decide) dX5_become_92 rfl ?_
  obtain ⟨σ26, e27, hf⟩ := sq_ex hf
  have hs28 : RgS σ26 := by rw [e27]; exact RgS_hcp hs25
  refine V_acopy (n1 := 8) (n2 := 8) (q := 97) hC (iM16 hj1) (iM16 hj0) rfl rfl (by decide) (by decide) ⟨by decide, by decide, by decide, by decide, by decide⟩ (Rg_c rfl) (Rg_c rfl) (Rg_c rfl) kX5_become_m50 kX5_become_nac kX5_become_sac kX5_become_iSys ⟨Nat.le_of_ble_eq_true rfl, Nat.le_of_ble_eq_true rfl⟩ e27 dX5_become_94 rfl ?_
  refine V_aload_n (k := 1) (q := 98) hC 1 rfl dX5_become_97 rfl ?_
  refine V_getf (T := TX5) (k := 4) (q := 101) hC uX5_become_5 rfl (iM5 hj1) rfl (by decide) kX5_become_f24 rfl dX5_become_98 rfl ?_
  refine V_iconst (q := 102) hC dX5_become_101 rfl ?_
  refine V_aload_n (k := 0) (q := 103) hC 0 rfl dX5_become_102 rfl ?_
  refine V_getf (T := TX5) (k := 4) (q := 106) hC uX5_become_5 rfl (iM5 hj0) rfl (by decide) kX5_become_f24 rfl dX5_become_103 rfl ?_
  refine V_iconst (q := 107) hC dX5_become_106 rfl ?_
  refine V_bipush (q := 109) hC (by decide) dX5_become_107 rfl ?_
  obtain ⟨σ29, e30, hf⟩ := sq_ex hf
  have hs31 : RgS σ29 := by rw [e30]; exact RgS_hcp hs28
  refine V_acopy (n1 := 8) (n2 := 8) (q := 112) hC (iM17 hj1) (iM17 hj0) rfl rfl (by decide) (by decide) ⟨by decide, by decide, by decide, by decide, by decide⟩ (Rg_c rfl) (Rg_c rfl) (Rg_c rfl) kX5_become_m50 kX5_become_nac kX5_become_sac kX5_become_iSys ⟨Nat.le_of_ble_eq_true rfl, Nat.le_of_ble_eq_true rfl⟩ e30 dX5_become_109 rfl ?_
  refine V_aload_n (k := 1) (q := 113) hC 1 rfl dX5_become_112 rfl ?_
  refine V_getf (T := TX5) (k := 5) (q := 116) hC uX5_become_5 rfl (iM5 hj1) rfl (by decide) kX5_become_f27 rfl dX5_become_113 rfl ?_
  refine V_iconst (q := 117) hC dX5_become_116 rfl ?_
  refine V_aload_n (k := 0) (q := 118) hC 0 rfl dX5_become_117 rfl ?_
  refine V_getf (T := TX5) (k := 5) (q := 121) hC uX5_become_5 rfl (iM5 hj0) rfl (by decide) kX5_become_f27 rfl dX5_become_118 rfl ?_
  refine V_iconst (q := 122) hC dX5_become_121 rfl ?_
  refine V_bipush (q := 124) hC (by decide) dX5_become_122 rfl ?_
  obtain ⟨σ32, e33, hf⟩ := sq_ex hf
  have hs34 : RgS σ32 := by rw [e33]; exact RgS_hcp hs31
  refine V_acopy (n1 := 8) (n2 := 8) (q := 127) hC (iM18 hj1) (iM18 hj0) rfl rfl (by decide) (by decide) ⟨by decide, by decide, by decide, by decide, by decide⟩ (Rg_c rfl) (Rg_c rfl) (Rg_c rfl) kX5_become_m50 kX5_become_nac kX5_become_sac kX5_become_iSys ⟨Nat.le_of_ble_eq_true rfl, Nat.le_of_ble_eq_true rfl⟩ e33 dX5_become_124 rfl ?_
  refine V_aload_n (k := 1) (q := 128) hC 1 rfl dX5_become_127 rfl ?_
  refine V_getf (T := TX5) (k := 6) (q := 131) hC uX5_become_5 rfl (iM5 hj1) rfl (by decide) kX5_become_f30 rfl dX5_become_128 rfl ?_
  refine V_iconst (q := 132) hC dX5_become_131 rfl ?_
  refine V_aload_n (k := 0) (q := 133) hC 0 rfl dX5_become_132 rfl ?_
  refine V_getf (T := TX5) (k := 6) (q := 136) hC uX5_become_5 rfl (iM5 hj0) rfl (by decide) kX5_become_f30 rfl dX5_become_133 rfl ?_
  refine V_iconst (q := 137) hC dX5_become_136 rfl ?_
  refine V_bipush (q := 139) hC (by decide) dX5_become_137 rfl ?_
  obtain ⟨σ35, e36, hf⟩ := sq_ex hf
  have hs37 : RgS σ35 := by rw [e36]; exact RgS_hcp hs34
  refine V_acopy (n1 := 8) (n2 := 8) (q := 142) hC (iM19 hj1) (iM19 hj0) rfl rfl (by decide) (by decide) ⟨by decide, by decide, by decide, by decide, by decide⟩ (Rg_c rfl) (Rg_c rfl) (Rg_c rfl) kX5_become_m50 kX5_become_nac kX5_become_sac kX5_become_iSys ⟨Nat.le_of_ble_eq_true rfl, Nat.le_of_ble_eq_true rfl⟩ e36 dX5_become_139 rfl ?_
  exact V_vret hC hr hlk (re_2 hf) hs37 dX5_become_142
/-! X1_keep -/
theorem kX1_keep_f11 : Cond.fieldLink RX1 11 "BarkNames$Past" "woods" "[LBarkNames$Wood;" ∈ wsX1_keep := by decide +kernel
theorem uX1_keep_1 : ∀ w ∈ u_ws RX1 TX1 3, w ∈ wsX1_keep := by decide +kernel
theorem kX1_keep_f18 : Cond.fieldLink RX1 18 "BarkNames$Past" "next" "I" ∈ wsX1_keep := by decide +kernel
theorem kX1_keep_f26 : Cond.fieldLink RX1 26 "BarkNames$Past" "kept" "I" ∈ wsX1_keep := by decide +kernel
theorem kX1_keep_m29 : Cond.methodLink RX1 29 Lib.Math.min.name ∈ wsX1_keep := by decide +kernel
theorem kX1_keep_smin : Cond.static Lib.Math.min.name ∈ wsX1_keep := by decide +kernel
theorem kX1_keep_iMath : Cond.initialized "java/lang/Math" ∈ wsX1_keep := by decide +kernel
theorem kX1_keep_kmin : Cond.code Lib.Math.min.name Lib.Math.min.code 2 (some .int) ∈ wsX1_keep := by decide +kernel
abbrev rmX1_keep : Room := { frames := 2, cells := 0, slots := 0, locals := 47 }
set_option maxHeartbeats 4000000 in
set_option maxRecDepth 100000 in
theorem sX1_keep (l : Launch) {G : GT} (hG : GI G) {j1 : Nat} (hj1 : j1 < 28) {σ : Hp} (hs : RgS σ) {r0 : Int × Hp} (hf : fX1_keep σ j1 = some r0) : Ctv l G yX1_keep wsX1_keep rmX1_keep [rf G 1 0, rf G 5 j1] σ r0.2 := by
  unfold fX1_keep at hf
  refine Ctv_start (lv := [(0, rf G 1 0), (1, rf G 5 j1)]) (ret := none) (by decide +kernel) rfl hG (Nat.le_of_ble_eq_true rfl) rfl (fun p e s m args below meth c hC hr hlk => ?_)
  refine V_aload_n (k := 0) (q := 1) hC 0 rfl dX1_keep_0 rfl ?_
  refine V_getf (T := TX1) (k := 0) (q := 4) hC uX1_keep_1 rfl iD1 rfl (by decide) kX1_keep_f11 rfl dX1_keep_1 rfl ?_
  refine V_aload_n (k := 0) (q := 5) hC 0 rfl dX1_keep_4 rfl ?_
  refine V_getf (T := TX1) (k := 1) (q := 8) hC uX1_keep_1 rfl iD1 rfl (by decide) kX1_keep_f18 rfl dX1_keep_5 rfl ?_
  obtain ⟨g1, hf⟩ := gd_some hf
  refine V_aald9 (q := 9) hC g1 (hs _ _ _) dX1_keep_8 rfl ?_
  have hj2 : (4 + (σ 1 0 1).toNat) < 28 := by omega
  refine V_aload_n (k := 1) (q := 10) hC 1 rfl dX1_keep_9 rfl ?_
  obtain ⟨r3, σ4, hc5, hf⟩ := cl_some hf
  refine V_cvv (st := []) (q := 13) (σ0 := σ4) hC (sX5_become l hG hj2 hj1 hs hc5) (cwV 1 hC.2.2.2.2.1 gX1_keep_X5_become rfl rfl rfl (by decide +kernel) ⟨Nat.le_of_ble_eq_true rfl, Nat.le_of_ble_eq_true rfl⟩) ⟨_, rfl, rfl⟩ (iM5 hj2) (fun _ => ⟨_, rfl⟩) rfl rfl (Nat.le_of_ble_eq_true rfl) dX1_keep_10 rfl ⟨Nat.zero_le _, Nat.zero_le _⟩ (fun hs7 => ?_)
  refine V_aload_n (k := 0) (q := 14) hC 0 rfl dX1_keep_13 rfl ?_
  refine V_aload_n (k := 0) (q := 15) hC 0 rfl dX1_keep_14 rfl ?_
  refine V_getf (T := TX1) (k := 1) (q := 18) hC uX1_keep_1 rfl iD1 rfl (by decide) kX1_keep_f18 rfl dX1_keep_15 rfl ?_
  refine V_iconst (q := 19) hC dX1_keep_18 rfl ?_
  refine V_iadd (q := 20) hC dX1_keep_19 rfl ?_
  refine V_bipush (q := 22) hC (by decide) dX1_keep_20 rfl ?_
  refine V_irem (q := 23) hC (Rg_wr _) (Rg_c rfl) (by decide) dX1_keep_22 rfl ?_
  obtain ⟨σ8, e9, hf⟩ := sq_ex hf
  have hs10 : RgS σ8 := by rw [e9]; exact RgS_hup hs7 (Rg_qrem _ _)
  refine V_putf (T := TX1) (k := 1) (ty := .int) (q := 26) hC uX1_keep_1 rfl tyX1 tyX1_ok nmX1 iD1 rfl (pf_1_1 _ _ _ _ rfl) (by decide) kX1_keep_f18 rfl (by decide +kernel) rfl rfl (Nat.le_of_ble_eq_true rfl) e9 dX1_keep_23 rfl ?_
  refine V_aload_n (k := 0) (q := 27) hC 0 rfl dX1_keep_26 rfl ?_
  refine V_aload_n (k := 0) (q := 28) hC 0 rfl dX1_keep_27 rfl ?_
  refine V_getf (T := TX1) (k := 2) (q := 31) hC uX1_keep_1 rfl iD1 rfl (by decide) kX1_keep_f26 rfl dX1_keep_28 rfl ?_
  refine V_iconst (q := 32) hC dX1_keep_31 rfl ?_
  refine V_iadd (q := 33) hC dX1_keep_32 rfl ?_
  refine V_bipush (q := 35) hC (by decide) dX1_keep_33 rfl ?_
  refine V_mmin (q := 38) hC (Rg_wr _) (Rg_c rfl) kX1_keep_m29 kX1_keep_smin kX1_keep_iMath kX1_keep_kmin ⟨Nat.le_of_ble_eq_true rfl, Nat.le_of_ble_eq_true rfl, Nat.zero_le _, Nat.zero_le _⟩ dX1_keep_35 rfl ?_
  obtain ⟨σ11, e12, hf⟩ := sq_ex hf
  have hs13 : RgS σ11 := by rw [e12]; exact RgS_hup hs10 (Rg_qmin (Rg_wr _) (Rg_c rfl))
  refine V_putf (T := TX1) (k := 2) (ty := .int) (q := 41) hC uX1_keep_1 rfl tyX1 tyX1_ok nmX1 iD1 rfl (pf_1_2 _ _ _ _ rfl) (by decide) kX1_keep_f26 rfl (by decide +kernel) rfl rfl (Nat.le_of_ble_eq_true rfl) e12 dX1_keep_38 rfl ?_
  exact V_vret hC hr hlk (re_2 hf) hs13 dX1_keep_41
/-! X1_bringBack -/
theorem kX1_bringBack_f26 : Cond.fieldLink RX1 26 "BarkNames$Past" "kept" "I" ∈ wsX1_bringBack := by decide +kernel
theorem uX1_bringBack_1 : ∀ w ∈ u_ws RX1 TX1 3, w ∈ wsX1_bringBack := by decide +kernel
theorem kX1_bringBack_f18 : Cond.fieldLink RX1 18 "BarkNames$Past" "next" "I" ∈ wsX1_bringBack := by decide +kernel
theorem kX1_bringBack_f11 : Cond.fieldLink RX1 11 "BarkNames$Past" "woods" "[LBarkNames$Wood;" ∈ wsX1_bringBack := by decide +kernel
abbrev rmX1_bringBack : Room := { frames := 2, cells := 0, slots := 0, locals := 47 }
set_option maxHeartbeats 4000000 in
set_option maxRecDepth 100000 in
theorem sX1_bringBack (l : Launch) {G : GT} (hG : GI G) {j1 : Nat} (hj1 : j1 < 28) {σ : Hp} (hs : RgS σ) {r0 : Int × Hp} (hf : fX1_bringBack σ j1 = some r0) : Ctv l G yX1_bringBack wsX1_bringBack rmX1_bringBack [rf G 1 0, rf G 5 j1] σ r0.2 := by
  unfold fX1_bringBack at hf
  refine Ctv_start (lv := [(0, rf G 1 0), (1, rf G 5 j1)]) (ret := none) (by decide +kernel) rfl hG (Nat.le_of_ble_eq_true rfl) rfl (fun p e s m args below meth c hC hr hlk => ?_)
  refine V_aload_n (k := 0) (q := 1) hC 0 rfl dX1_bringBack_0 rfl ?_
  refine V_getf (T := TX1) (k := 2) (q := 4) hC uX1_bringBack_1 rfl iD1 rfl (by decide) kX1_bringBack_f26 rfl dX1_bringBack_1 rfl ?_
  refine V_if_le (tgt := 46) (q := 7) hC (hs _ _ _) dX1_bringBack_4 (by decide) rfl (fun c1 => ?_) (fun c1 => ?_)
  · replace hf := (if_pos c1).symm.trans hf
    exact V_vret hC hr hlk (re_2 hf) hs dX1_bringBack_46
  · replace hf := (if_neg c1).symm.trans hf
    refine V_aload_n (k := 0) (q := 8) hC 0 rfl dX1_bringBack_7 rfl ?_
    refine V_dup (q := 9) hC rfl dX1_bringBack_8 rfl ?_
    refine V_getf (T := TX1) (k := 2) (q := 12) hC uX1_bringBack_1 rfl iD1 rfl (by decide) kX1_bringBack_f26 rfl dX1_bringBack_9 rfl ?_
    refine V_iconst (q := 13) hC dX1_bringBack_12 rfl ?_
    refine V_isub (q := 14) hC dX1_bringBack_13 rfl ?_
    obtain ⟨σ2, e3, hf⟩ := sq_ex hf
    have hs4 : RgS σ2 := by rw [e3]; exact RgS_hup hs (Rg_wr _)
    refine V_putf (T := TX1) (k := 2) (ty := .int) (q := 17) hC uX1_bringBack_1 rfl tyX1 tyX1_ok nmX1 iD1 rfl (pf_1_2 _ _ _ _ rfl) (by decide) kX1_bringBack_f26 rfl (by decide +kernel) rfl rfl (Nat.le_of_ble_eq_true rfl) e3 dX1_bringBack_14 rfl ?_
    refine V_aload_n (k := 0) (q := 18) hC 0 rfl dX1_bringBack_17 rfl ?_
    refine V_aload_n (k := 0) (q := 19) hC 0 rfl dX1_bringBack_18 rfl ?_
    refine V_getf (T := TX1) (k := 1) (q := 22) hC uX1_bringBack_1 rfl iD1 rfl (by decide) kX1_bringBack_f18 rfl dX1_bringBack_19 rfl ?_
    refine V_bipush (q := 24) hC (by decide) dX1_bringBack_22 rfl ?_
    refine V_iadd (q := 25) hC dX1_bringBack_24 rfl ?_
    refine V_iconst (q := 26) hC dX1_bringBack_25 rfl ?_
    refine V_isub (q := 27) hC dX1_bringBack_26 rfl ?_
    refine V_bipush (q := 29) hC (by decide) dX1_bringBack_27 rfl ?_
    refine V_irem (q := 30) hC (Rg_wr _) (Rg_c rfl) (by decide) dX1_bringBack_29 rfl ?_
    obtain ⟨σ5, e6, hf⟩ := sq_ex hf
    have hs7 : RgS σ5 := by rw [e6]; exact RgS_hup hs4 (Rg_qrem _ _)
    refine V_putf (T := TX1) (k := 1) (ty := .int) (q := 33) hC uX1_bringBack_1 rfl tyX1 tyX1_ok nmX1 iD1 rfl (pf_1_1 _ _ _ _ rfl) (by decide) kX1_bringBack_f18 rfl (by decide +kernel) rfl rfl (Nat.le_of_ble_eq_true rfl) e6 dX1_bringBack_30 rfl ?_
    refine V_aload_n (k := 1) (q := 34) hC 1 rfl dX1_bringBack_33 rfl ?_
    refine V_aload_n (k := 0) (q := 35) hC 0 rfl dX1_bringBack_34 rfl ?_
    refine V_getf (T := TX1) (k := 0) (q := 38) hC uX1_bringBack_1 rfl iD1 rfl (by decide) kX1_bringBack_f11 rfl dX1_bringBack_35 rfl ?_
    refine V_aload_n (k := 0) (q := 39) hC 0 rfl dX1_bringBack_38 rfl ?_
    refine V_getf (T := TX1) (k := 1) (q := 42) hC uX1_bringBack_1 rfl iD1 rfl (by decide) kX1_bringBack_f18 rfl dX1_bringBack_39 rfl ?_
    obtain ⟨g8, hf⟩ := gd_some hf
    refine V_aald9 (q := 43) hC g8 (hs7 _ _ _) dX1_bringBack_42 rfl ?_
    have hj9 : (4 + (σ5 1 0 1).toNat) < 28 := by omega
    obtain ⟨r10, σ11, hc12, hf⟩ := cl_some hf
    refine V_cvv (st := []) (q := 46) (σ0 := σ11) hC (sX5_become l hG hj1 hj9 hs7 hc12) (cwV 1 hC.2.2.2.2.1 gX1_bringBack_X5_become rfl rfl rfl (by decide +kernel) ⟨Nat.le_of_ble_eq_true rfl, Nat.le_of_ble_eq_true rfl⟩) ⟨_, rfl, rfl⟩ (iM5 hj1) (fun _ => ⟨_, rfl⟩) rfl rfl (Nat.le_of_ble_eq_true rfl) dX1_bringBack_43 rfl ⟨Nat.zero_le _, Nat.zero_le _⟩ (fun hs14 => ?_)
    exact V_vret hC hr hlk (re_2 hf) hs14 dX1_bringBack_46
/-! X1_forget -/
theorem kX1_forget_f26 : Cond.fieldLink RX1 26 "BarkNames$Past" "kept" "I" ∈ wsX1_forget := by decide +kernel
theorem uX1_forget_1 : ∀ w ∈ u_ws RX1 TX1 3, w ∈ wsX1_forget := by decide +kernel
abbrev rmX1_forget : Room := { frames := 0, cells := 0, slots := 0, locals := 0 }
set_option maxHeartbeats 4000000 in
set_option maxRecDepth 100000 in
theorem sX1_forget (l : Launch) {G : GT} (hG : GI G) {σ : Hp} (hs : RgS σ) {r0 : Int × Hp} (hf : fX1_forget σ = some r0) : Ctv l G yX1_forget wsX1_forget rmX1_forget [rf G 1 0] σ r0.2 := by
  unfold fX1_forget at hf
  refine Ctv_start (lv := [(0, rf G 1 0)]) (ret := none) (by decide +kernel) rfl hG (Nat.le_of_ble_eq_true rfl) rfl (fun p e s m args below meth c hC hr hlk => ?_)
  refine V_aload_n (k := 0) (q := 1) hC 0 rfl dX1_forget_0 rfl ?_
  refine V_iconst (q := 2) hC dX1_forget_1 rfl ?_
  obtain ⟨σ1, e2, hf⟩ := sq_ex hf
  have hs3 : RgS σ1 := by rw [e2]; exact RgS_hup hs (Rg_c rfl)
  refine V_putf (T := TX1) (k := 2) (ty := .int) (q := 5) hC uX1_forget_1 rfl tyX1 tyX1_ok nmX1 iD1 rfl (pf_1_2 _ _ _ _ rfl) (by decide) kX1_forget_f26 rfl (by decide +kernel) rfl rfl (Nat.le_of_ble_eq_true rfl) e2 dX1_forget_2 rfl ?_
  exact V_vret hC hr hlk (re_2 hf) hs3 dX1_forget_5
/-! X5_bothReadable -/
theorem kX5_bothReadable_f21 : Cond.fieldLink RX5 21 "BarkNames$Wood" "treeOf" "[I" ∈ wsX5_bothReadable := by decide +kernel
theorem uX5_bothReadable_5 : ∀ w ∈ u_ws RX5 TX5 12, w ∈ wsX5_bothReadable := by decide +kernel
theorem kX5_bothReadable_f30 : Cond.fieldLink RX5 30 "BarkNames$Wood" "depthOf" "[I" ∈ wsX5_bothReadable := by decide +kernel
abbrev rmX5_bothReadable : Room := { frames := 0, cells := 0, slots := 0, locals := 0 }
set_option maxHeartbeats 4000000 in
set_option maxRecDepth 100000 in
theorem sX5_bothReadable (l : Launch) {G : GT} (hG : GI G) {j0 : Nat} {v1 : Int} {v2 : Int} (hj0 : j0 < 28) (h1 : Rg v1) (h2 : Rg v2) {σ : Hp} (hs : RgS σ) {r0 : Int × Hp} (hf : fX5_bothReadable σ j0 v1 v2 = some r0) : Cti l G yX5_bothReadable wsX5_bothReadable rmX5_bothReadable [rf G 5 j0, iv v1, iv v2] σ r0.1 r0.2 := by
  unfold fX5_bothReadable at hf
  refine Cti_start (lv := [(0, rf G 5 j0), (1, iv v1), (2, iv v2)]) (ret := (some .boolean)) (by decide +kernel) rfl hG (Nat.le_of_ble_eq_true rfl) rfl (fun p e s m args below meth c hC hr hlk => ?_)
  refine V_aload_n (k := 0) (q := 1) hC 0 rfl dX5_bothReadable_0 rfl ?_
  refine V_getf (T := TX5) (k := 3) (q := 4) hC uX5_bothReadable_5 rfl (iM5 hj0) rfl (by decide) kX5_bothReadable_f21 rfl dX5_bothReadable_1 rfl ?_
  refine V_iload_n (k := 1) (q := 5) hC 1 rfl dX5_bothReadable_4 rfl ?_
  obtain ⟨g1, hf⟩ := gd_some hf
  refine V_iald (n := 8) (q := 6) hC (iM16 hj0) rfl g1 h1 dX5_bothReadable_5 rfl ?_
  refine V_aload_n (k := 0) (q := 7) hC 0 rfl dX5_bothReadable_6 rfl ?_
  refine V_getf (T := TX5) (k := 3) (q := 10) hC uX5_bothReadable_5 rfl (iM5 hj0) rfl (by decide) kX5_bothReadable_f21 rfl dX5_bothReadable_7 rfl ?_
  refine V_iload_n (k := 2) (q := 11) hC 2 rfl dX5_bothReadable_10 rfl ?_
  obtain ⟨g2, hf⟩ := gd_some hf
  refine V_iald (n := 8) (q := 12) hC (iM16 hj0) rfl g2 h2 dX5_bothReadable_11 rfl ?_
  refine V_icmp_ne (tgt := 37) (q := 15) hC (hs _ _ _) (hs _ _ _) dX5_bothReadable_12 (by decide) rfl (fun c3 => ?_) (fun c3 => ?_)
  · replace hf := (if_neg c3).symm.trans hf
    refine V_iconst (q := 38) hC dX5_bothReadable_37 rfl ?_
    exact V_zret hC hr hlk (Or.inl rfl) (re_1 hf) (re_2 hf) hs dX5_bothReadable_38
  · replace hf := (if_pos c3).symm.trans hf
    refine V_aload_n (k := 0) (q := 16) hC 0 rfl dX5_bothReadable_15 rfl ?_
    refine V_getf (T := TX5) (k := 6) (q := 19) hC uX5_bothReadable_5 rfl (iM5 hj0) rfl (by decide) kX5_bothReadable_f30 rfl dX5_bothReadable_16 rfl ?_
    refine V_iload_n (k := 1) (q := 20) hC 1 rfl dX5_bothReadable_19 rfl ?_
    obtain ⟨g4, hf⟩ := gd_some hf
    refine V_iald (n := 8) (q := 21) hC (iM19 hj0) rfl g4 h1 dX5_bothReadable_20 rfl ?_
    refine V_if_le (tgt := 37) (q := 24) hC (hs _ _ _) dX5_bothReadable_21 (by decide) rfl (fun c5 => ?_) (fun c5 => ?_)
    · replace hf := (if_pos c5).symm.trans hf
      refine V_iconst (q := 38) hC dX5_bothReadable_37 rfl ?_
      exact V_zret hC hr hlk (Or.inl rfl) (re_1 hf) (re_2 hf) hs dX5_bothReadable_38
    · replace hf := (if_neg c5).symm.trans hf
      refine V_aload_n (k := 0) (q := 25) hC 0 rfl dX5_bothReadable_24 rfl ?_
      refine V_getf (T := TX5) (k := 6) (q := 28) hC uX5_bothReadable_5 rfl (iM5 hj0) rfl (by decide) kX5_bothReadable_f30 rfl dX5_bothReadable_25 rfl ?_
      refine V_iload_n (k := 2) (q := 29) hC 2 rfl dX5_bothReadable_28 rfl ?_
      obtain ⟨g6, hf⟩ := gd_some hf
      refine V_iald (n := 8) (q := 30) hC (iM19 hj0) rfl g6 h2 dX5_bothReadable_29 rfl ?_
      refine V_if_le (tgt := 37) (q := 33) hC (hs _ _ _) dX5_bothReadable_30 (by decide) rfl (fun c7 => ?_) (fun c7 => ?_)
      · replace hf := (if_pos c7).symm.trans hf
        refine V_iconst (q := 38) hC dX5_bothReadable_37 rfl ?_
        exact V_zret hC hr hlk (Or.inl rfl) (re_1 hf) (re_2 hf) hs dX5_bothReadable_38
      · replace hf := (if_neg c7).symm.trans hf
        refine V_iconst (q := 34) hC dX5_bothReadable_33 rfl ?_
        refine V_goto (tgt := 38) hC dX5_bothReadable_34 (by decide) ?_
        exact V_zret hC hr hlk (Or.inr rfl) (re_1 hf) (re_2 hf) hs dX5_bothReadable_38
/-! X5_placesApart -/
theorem kX5_placesApart_f27 : Cond.fieldLink RX5 27 "BarkNames$Wood" "placeOf" "[I" ∈ wsX5_placesApart := by decide +kernel
theorem uX5_placesApart_5 : ∀ w ∈ u_ws RX5 TX5 12, w ∈ wsX5_placesApart := by decide +kernel
theorem kX5_placesApart_m87 : Cond.methodLink RX5 87 Lib.Math.abs.name ∈ wsX5_placesApart := by decide +kernel
theorem kX5_placesApart_sabs : Cond.static Lib.Math.abs.name ∈ wsX5_placesApart := by decide +kernel
theorem kX5_placesApart_iMath : Cond.initialized "java/lang/Math" ∈ wsX5_placesApart := by decide +kernel
theorem kX5_placesApart_kabs : Cond.code Lib.Math.abs.name Lib.Math.abs.code 1 (some .int) ∈ wsX5_placesApart := by decide +kernel
theorem kX5_placesApart_m64 : Cond.methodLink RX5 64 Lib.Math.min.name ∈ wsX5_placesApart := by decide +kernel
theorem kX5_placesApart_smin : Cond.static Lib.Math.min.name ∈ wsX5_placesApart := by decide +kernel
theorem kX5_placesApart_kmin : Cond.code Lib.Math.min.name Lib.Math.min.code 2 (some .int) ∈ wsX5_placesApart := by decide +kernel
abbrev rmX5_placesApart : Room := { frames := 1, cells := 0, slots := 0, locals := 21 }
set_option maxHeartbeats 4000000 in
set_option maxRecDepth 100000 in
theorem sX5_placesApart (l : Launch) {G : GT} (hG : GI G) {j0 : Nat} {v1 : Int} {v2 : Int} (hj0 : j0 < 28) (h1 : Rg v1) (h2 : Rg v2) {σ : Hp} (hs : RgS σ) {r0 : Int × Hp} (hf : fX5_placesApart σ j0 v1 v2 = some r0) : Cti l G yX5_placesApart wsX5_placesApart rmX5_placesApart [rf G 5 j0, iv v1, iv v2] σ r0.1 r0.2 := by
  unfold fX5_placesApart at hf
  refine Cti_start (lv := [(0, rf G 5 j0), (1, iv v1), (2, iv v2)]) (ret := (some .int)) (by decide +kernel) rfl hG (Nat.le_of_ble_eq_true rfl) rfl (fun p e s m args below meth c hC hr hlk => ?_)
  refine V_aload_n (k := 0) (q := 1) hC 0 rfl dX5_placesApart_0 rfl ?_
  refine V_getf (T := TX5) (k := 5) (q := 4) hC uX5_placesApart_5 rfl (iM5 hj0) rfl (by decide) kX5_placesApart_f27 rfl dX5_placesApart_1 rfl ?_
  refine V_iload_n (k := 1) (q := 5) hC 1 rfl dX5_placesApart_4 rfl ?_
  obtain ⟨g1, hf⟩ := gd_some hf
  refine V_iald (n := 8) (q := 6) hC (iM18 hj0) rfl g1 h1 dX5_placesApart_5 rfl ?_
  refine V_aload_n (k := 0) (q := 7) hC 0 rfl dX5_placesApart_6 rfl ?_
  refine V_getf (T := TX5) (k := 5) (q := 10) hC uX5_placesApart_5 rfl (iM5 hj0) rfl (by decide) kX5_placesApart_f27 rfl dX5_placesApart_7 rfl ?_
  refine V_iload_n (k := 2) (q := 11) hC 2 rfl dX5_placesApart_10 rfl ?_
  obtain ⟨g2, hf⟩ := gd_some hf
  refine V_iald (n := 8) (q := 12) hC (iM18 hj0) rfl g2 h2 dX5_placesApart_11 rfl ?_
  refine V_isub (q := 13) hC dX5_placesApart_12 rfl ?_
  refine V_mabs (q := 16) hC (Rg_wr _) kX5_placesApart_m87 kX5_placesApart_sabs kX5_placesApart_iMath kX5_placesApart_kabs ⟨Nat.le_of_ble_eq_true rfl, Nat.le_of_ble_eq_true rfl, Nat.zero_le _, Nat.zero_le _⟩ dX5_placesApart_13 rfl ?_
  refine V_istore_n (k := 3) (i := 3) (lv' := [(0, rf G 5 j0), (1, iv v1), (2, iv v2), (3, iv (qabs (wr ((σ 18 j0 v1.toNat) - (σ 18 j0 v2.toNat)))))]) (q := 17) hC [1, 2, 3, 0] rfl (by decide) rfl dX5_placesApart_16 rfl ?_
  refine V_iload_n (k := 3) (q := 18) hC 3 rfl dX5_placesApart_17 rfl ?_
  refine V_bipush (q := 20) hC (by decide) dX5_placesApart_18 rfl ?_
  refine V_iload_n (k := 3) (q := 21) hC 3 rfl dX5_placesApart_20 rfl ?_
  refine V_isub (q := 22) hC dX5_placesApart_21 rfl ?_
  refine V_mmin (q := 25) hC (Rg_qabs _) (Rg_wr _) kX5_placesApart_m64 kX5_placesApart_smin kX5_placesApart_iMath kX5_placesApart_kmin ⟨Nat.le_of_ble_eq_true rfl, Nat.le_of_ble_eq_true rfl, Nat.zero_le _, Nat.zero_le _⟩ dX5_placesApart_22 rfl ?_
  exact V_iret hC hr hlk (re_1 hf) (re_2 hf) (Rg_qmin (Rg_qabs _) (Rg_wr _)) hs dX5_placesApart_25
/-! X5_distance -/
theorem kX5_distance_f15 : Cond.fieldLink RX5 15 "BarkNames$Wood" "girthOf" "[I" ∈ wsX5_distance := by decide +kernel
theorem uX5_distance_5 : ∀ w ∈ u_ws RX5 TX5 12, w ∈ wsX5_distance := by decide +kernel
theorem kX5_distance_f21 : Cond.fieldLink RX5 21 "BarkNames$Wood" "treeOf" "[I" ∈ wsX5_distance := by decide +kernel
abbrev rmX5_distance : Room := { frames := 2, cells := 0, slots := 0, locals := 44 }
set_option maxHeartbeats 4000000 in
set_option maxRecDepth 100000 in
theorem sX5_distance (l : Launch) {G : GT} (hG : GI G) {j0 : Nat} {v1 : Int} {v2 : Int} (hj0 : j0 < 28) (h1 : Rg v1) (h2 : Rg v2) {σ : Hp} (hs : RgS σ) {r0 : Int × Hp} (hf : fX5_distance σ j0 v1 v2 = some r0) : Cti l G yX5_distance wsX5_distance rmX5_distance [rf G 5 j0, iv v1, iv v2] σ r0.1 r0.2 := by
  unfold fX5_distance at hf
  refine Cti_start (lv := [(0, rf G 5 j0), (1, iv v1), (2, iv v2)]) (ret := (some .int)) (by decide +kernel) rfl hG (Nat.le_of_ble_eq_true rfl) rfl (fun p e s m args below meth c hC hr hlk => ?_)
  refine V_aload_n (k := 0) (q := 1) hC 0 rfl dX5_distance_0 rfl ?_
  refine V_iload_n (k := 1) (q := 2) hC 1 rfl dX5_distance_1 rfl ?_
  refine V_iload_n (k := 2) (q := 3) hC 2 rfl dX5_distance_2 rfl ?_
  obtain ⟨r1, σ2, hc3, hf⟩ := cl_some hf
  refine V_cvi (st := []) (q := 6) (x0 := r1) (σ0 := σ2) hC (sX5_placesApart l hG hj0 h1 h2 hs hc3) (cwV 2 hC.2.2.2.2.1 gX5_distance_X5_placesApart rfl rfl rfl (by decide +kernel) ⟨Nat.le_of_ble_eq_true rfl, Nat.le_of_ble_eq_true rfl⟩) ⟨_, rfl, rfl⟩ (iM5 hj0) (fun _ => ⟨_, rfl⟩) rfl rfl (Nat.le_of_ble_eq_true rfl) dX5_distance_3 rfl ⟨Nat.zero_le _, Nat.zero_le _⟩ (fun hr4 hs5 => ?_)
  refine V_aload_n (k := 0) (q := 7) hC 0 rfl dX5_distance_6 rfl ?_
  refine V_getf (T := TX5) (k := 1) (q := 10) hC uX5_distance_5 rfl (iM5 hj0) rfl (by decide) kX5_distance_f15 rfl dX5_distance_7 rfl ?_
  refine V_aload_n (k := 0) (q := 11) hC 0 rfl dX5_distance_10 rfl ?_
  refine V_getf (T := TX5) (k := 3) (q := 14) hC uX5_distance_5 rfl (iM5 hj0) rfl (by decide) kX5_distance_f21 rfl dX5_distance_11 rfl ?_
  refine V_iload_n (k := 1) (q := 15) hC 1 rfl dX5_distance_14 rfl ?_
  obtain ⟨g6, hf⟩ := gd_some hf
  refine V_iald (n := 8) (q := 16) hC (iM16 hj0) rfl g6 h1 dX5_distance_15 rfl ?_
  obtain ⟨g7, hf⟩ := gd_some hf
  refine V_iald (n := 4) (q := 17) hC (iM14 hj0) rfl g7 (hs5 _ _ _) dX5_distance_16 rfl ?_
  refine V_imul (q := 18) hC dX5_distance_17 rfl ?_
  refine V_bipush (q := 20) hC (by decide) dX5_distance_18 rfl ?_
  refine V_idiv (q := 21) hC (Rg_wr _) (Rg_c rfl) (by decide) dX5_distance_20 rfl ?_
  exact V_iret hC hr hlk (re_1 hf) (re_2 hf) (Rg_qdiv _ _) hs5 dX5_distance_21
/-! X5_readAsOne -/
theorem kX5_readAsOne_f37 : Cond.fieldLink RX5 37 "BarkNames$Wood" "wide" "I" ∈ wsX5_readAsOne := by decide +kernel
theorem uX5_readAsOne_5 : ∀ w ∈ u_ws RX5 TX5 12, w ∈ wsX5_readAsOne := by decide +kernel
abbrev rmX5_readAsOne : Room := { frames := 3, cells := 0, slots := 0, locals := 66 }
set_option maxHeartbeats 4000000 in
set_option maxRecDepth 100000 in
theorem sX5_readAsOne (l : Launch) {G : GT} (hG : GI G) {j0 : Nat} {v1 : Int} {v2 : Int} (hj0 : j0 < 28) (h1 : Rg v1) (h2 : Rg v2) {σ : Hp} (hs : RgS σ) {r0 : Int × Hp} (hf : fX5_readAsOne σ j0 v1 v2 = some r0) : Cti l G yX5_readAsOne wsX5_readAsOne rmX5_readAsOne [rf G 5 j0, iv v1, iv v2] σ r0.1 r0.2 := by
  unfold fX5_readAsOne at hf
  refine Cti_start (lv := [(0, rf G 5 j0), (1, iv v1), (2, iv v2)]) (ret := (some .boolean)) (by decide +kernel) rfl hG (Nat.le_of_ble_eq_true rfl) rfl (fun p e s m args below meth c hC hr hlk => ?_)
  refine V_aload_n (k := 0) (q := 1) hC 0 rfl dX5_readAsOne_0 rfl ?_
  refine V_iload_n (k := 1) (q := 2) hC 1 rfl dX5_readAsOne_1 rfl ?_
  refine V_iload_n (k := 2) (q := 3) hC 2 rfl dX5_readAsOne_2 rfl ?_
  obtain ⟨r1, σ2, hc3, hf⟩ := cl_some hf
  refine V_cvi (st := []) (q := 6) (x0 := r1) (σ0 := σ2) hC (sX5_bothReadable l hG hj0 h1 h2 hs hc3) (cwV 2 hC.2.2.2.2.1 gX5_readAsOne_X5_bothReadable rfl rfl rfl (by decide +kernel) ⟨Nat.le_of_ble_eq_true rfl, Nat.le_of_ble_eq_true rfl⟩) ⟨_, rfl, rfl⟩ (iM5 hj0) (fun _ => ⟨_, rfl⟩) rfl rfl (Nat.le_of_ble_eq_true rfl) dX5_readAsOne_3 rfl ⟨Nat.zero_le _, Nat.zero_le _⟩ (fun hr4 hs5 => ?_)
  refine V_if_eq (tgt := 26) (q := 9) hC hr4 dX5_readAsOne_6 (by decide) rfl (fun c6 => ?_) (fun c6 => ?_)
  · replace hf := (if_pos c6).symm.trans hf
    refine V_iconst (q := 27) hC dX5_readAsOne_26 rfl ?_
    exact V_zret hC hr hlk (Or.inl rfl) (re_1 hf) (re_2 hf) hs5 dX5_readAsOne_27
  · replace hf := (if_neg c6).symm.trans hf
    refine V_aload_n (k := 0) (q := 10) hC 0 rfl dX5_readAsOne_9 rfl ?_
    refine V_iload_n (k := 1) (q := 11) hC 1 rfl dX5_readAsOne_10 rfl ?_
    refine V_iload_n (k := 2) (q := 12) hC 2 rfl dX5_readAsOne_11 rfl ?_
    obtain ⟨r7, σ8, hc9, hf⟩ := cl_some hf
    refine V_cvi (st := []) (q := 15) (x0 := r7) (σ0 := σ8) hC (sX5_distance l hG hj0 h1 h2 hs5 hc9) (cwV 2 hC.2.2.2.2.1 gX5_readAsOne_X5_distance rfl rfl rfl (by decide +kernel) ⟨Nat.le_of_ble_eq_true rfl, Nat.le_of_ble_eq_true rfl⟩) ⟨_, rfl, rfl⟩ (iM5 hj0) (fun _ => ⟨_, rfl⟩) rfl rfl (Nat.le_of_ble_eq_true rfl) dX5_readAsOne_12 rfl ⟨Nat.zero_le _, Nat.zero_le _⟩ (fun hr10 hs11 => ?_)
    refine V_aload_n (k := 0) (q := 16) hC 0 rfl dX5_readAsOne_15 rfl ?_
    refine V_getf (T := TX5) (k := 8) (q := 19) hC uX5_readAsOne_5 rfl (iM5 hj0) rfl (by decide) kX5_readAsOne_f37 rfl dX5_readAsOne_16 rfl ?_
    refine V_icmp_gt (tgt := 26) (q := 22) hC hr10 (hs11 _ _ _) dX5_readAsOne_19 (by decide) rfl (fun c12 => ?_) (fun c12 => ?_)
    · replace hf := (if_pos c12).symm.trans hf
      refine V_iconst (q := 27) hC dX5_readAsOne_26 rfl ?_
      exact V_zret hC hr hlk (Or.inl rfl) (re_1 hf) (re_2 hf) hs11 dX5_readAsOne_27
    · replace hf := (if_neg c12).symm.trans hf
      refine V_iconst (q := 23) hC dX5_readAsOne_22 rfl ?_
      refine V_goto (tgt := 27) hC dX5_readAsOne_23 (by decide) ?_
      exact V_zret hC hr hlk (Or.inr rfl) (re_1 hf) (re_2 hf) hs11 dX5_readAsOne_27
/-! X2_lookAt -/
theorem kX2_lookAt_f9 : Cond.fieldLink RX2 9 "BarkNames$Reading" "asOneWith" "[I" ∈ wsX2_lookAt := by decide +kernel
theorem uX2_lookAt_2 : ∀ w ∈ u_ws RX2 TX2 1, w ∈ wsX2_lookAt := by decide +kernel
theorem kX2_lookAt_f21 : Cond.fieldLink RX2 21 "BarkNames$Wood" "cutCount" "I" ∈ wsX2_lookAt := by decide +kernel
theorem uX2_lookAt_5 : ∀ w ∈ u_ws RX5 TX5 12, w ∈ wsX2_lookAt := by decide +kernel
abbrev rmX2_lookAt : Room := { frames := 4, cells := 0, slots := 0, locals := 88 }
set_option maxHeartbeats 4000000 in
set_option maxRecDepth 100000 in
theorem tlX2_lookAt_10 {p : Program} {l : Launch} {e : Env} {s : State} {m : MethodId} {args : Array Value} {below : List Frame} {meth : Method} {c : Code} {G : GT} (hG : GI G) (hC : CX p s m args c cX2_lookAt 4 RX2 wsX2_lookAt G (AA G)) (hr : meth.sig.returnType = none) (hlk : meth.locks = false) {j1 : Nat} (hj1 : j1 < 28) {r0 : Int × Hp} : ∀ n : Nat, (∀ {σ : Hp} (hs : RgS σ) {v2 : Int} (h2 : Rg v2) (hf : lX2_lookAt_10 n 0 σ j1 v2 0 = some r0), VV p l e (headSpec wsX2_lookAt rmX2_lookAt).room s m args below meth c (MQ below (QV G r0.2) args s 0 0 (AA G)) G (AA G) 0 0 4 σ 10 [(0, rf G 2 0), (1, rf G 5 j1), (2, iv v2)] []) ∧ (∀ {σ : Hp} (hs : RgS σ) {v2 : Int} {v3 : Int} (h2 : Rg v2) (h3 : Rg v3) (hf : lX2_lookAt_10 n 1 σ j1 v2 v3 = some r0), VV p l e (headSpec wsX2_lookAt rmX2_lookAt).room s m args below meth c (MQ below (QV G r0.2) args s 0 0 (AA G)) G (AA G) 0 0 4 σ 20 [(0, rf G 2 0), (1, rf G 5 j1), (2, iv v2), (3, iv v3)] []) := by
  intro n
  induction n with
  | zero =>
    exact ⟨by intro σ hs v2 h2 hf; exact absurd (show (none : Option (Int × Hp)) = some r0 from hf) (fun z => by cases z), by intro σ hs v2 v3 h2 h3 hf; exact absurd (show (none : Option (Int × Hp)) = some r0 from hf) (fun z => by cases z)⟩
  | succ n ih =>
    refine ⟨?_, ?_⟩
    · intro σ hs v2 h2 hf
      replace hf := (lX2_lookAt_10_e0 n σ j1 v2 0).symm.trans hf
      refine V_iload_n (k := 2) (q := 11) hC 2 rfl dX2_lookAt_10 rfl ?_
      refine V_aload_n (k := 1) (q := 12) hC 1 rfl dX2_lookAt_11 rfl ?_
      refine V_getf (T := TX5) (k := 11) (q := 15) hC uX2_lookAt_5 rfl (iM5 hj1) rfl (by decide) kX2_lookAt_f21 rfl dX2_lookAt_12 rfl ?_
      refine V_icmp_ge (tgt := 66) (q := 18) hC h2 (hs _ _ _) dX2_lookAt_15 (by decide) rfl (fun c6 => ?_) (fun c6 => ?_)
      · replace hf := (if_pos c6).symm.trans hf
        exact V_vret hC hr hlk (re_2 hf) hs dX2_lookAt_66
      · replace hf := (if_neg c6).symm.trans hf
        refine V_iconst (q := 19) hC dX2_lookAt_18 rfl ?_
        refine V_istore_n (k := 3) (i := 3) (lv' := [(0, rf G 2 0), (1, rf G 5 j1), (2, iv v2), (3, iv 0)]) (q := 20) hC [1, 2, 3, 0] rfl (by decide) rfl dX2_lookAt_19 rfl ?_
        refine V_lsub [0, 1, 2, 3] rfl ?_
        exact ih.2 hs h2 (Rg_c rfl) hf
    · intro σ hs v2 v3 h2 h3 hf
      replace hf := (lX2_lookAt_10_e1 n σ j1 v2 v3).symm.trans hf
      refine V_iload_n (k := 3) (q := 21) hC 3 rfl dX2_lookAt_20 rfl ?_
      refine V_aload_n (k := 1) (q := 22) hC 1 rfl dX2_lookAt_21 rfl ?_
      refine V_getf (T := TX5) (k := 11) (q := 25) hC uX2_lookAt_5 rfl (iM5 hj1) rfl (by decide) kX2_lookAt_f21 rfl dX2_lookAt_22 rfl ?_
      refine V_icmp_ge (tgt := 60) (q := 28) hC h3 (hs _ _ _) dX2_lookAt_25 (by decide) rfl (fun c7 => ?_) (fun c7 => ?_)
      · replace hf := (if_pos c7).symm.trans hf
        refine V_iinc (i := 2) (lv' := [(0, rf G 2 0), (1, rf G 5 j1), (2, iv (wr (v2 + 1))), (3, iv v3)]) (q := 63) hC 2 rfl [1, 2, 0, 3] (by decide) rfl dX2_lookAt_60 rfl ?_
        refine V_goto (tgt := 10) hC dX2_lookAt_63 (by decide) ?_
        refine V_lsub [0, 1, 2] rfl ?_
        exact ih.1 hs (Rg_wr _) hf
      · replace hf := (if_neg c7).symm.trans hf
        refine V_iload_n (k := 2) (q := 29) hC 2 rfl dX2_lookAt_28 rfl ?_
        refine V_iload_n (k := 3) (q := 30) hC 3 rfl dX2_lookAt_29 rfl ?_
        refine V_icmp_eq (tgt := 54) (q := 33) hC h2 h3 dX2_lookAt_30 (by decide) rfl (fun c8 => ?_) (fun c8 => ?_)
        · replace hf := (if_pos c8).symm.trans hf
          refine V_iinc (i := 3) (lv' := [(0, rf G 2 0), (1, rf G 5 j1), (2, iv v2), (3, iv (wr (v3 + 1)))]) (q := 57) hC 3 rfl [1, 2, 3, 0] (by decide) rfl dX2_lookAt_54 rfl ?_
          refine V_goto (tgt := 20) hC dX2_lookAt_57 (by decide) ?_
          refine V_lsub [0, 1, 2, 3] rfl ?_
          exact ih.2 hs h2 (Rg_wr _) hf
        · replace hf := (if_neg c8).symm.trans hf
          refine V_aload_n (k := 1) (q := 34) hC 1 rfl dX2_lookAt_33 rfl ?_
          refine V_iload_n (k := 2) (q := 35) hC 2 rfl dX2_lookAt_34 rfl ?_
          refine V_iload_n (k := 3) (q := 36) hC 3 rfl dX2_lookAt_35 rfl ?_
          obtain ⟨r9, σ10, hc11, hf⟩ := cl_some hf
          refine V_cvi (st := []) (q := 39) (x0 := r9) (σ0 := σ10) hC (sX5_readAsOne l hG hj1 h2 h3 hs hc11) (cwV 2 hC.2.2.2.2.1 gX2_lookAt_X5_readAsOne rfl rfl rfl (by decide +kernel) ⟨Nat.le_of_ble_eq_true rfl, Nat.le_of_ble_eq_true rfl⟩) ⟨_, rfl, rfl⟩ (iM5 hj1) (fun _ => ⟨_, rfl⟩) rfl rfl (Nat.le_of_ble_eq_true rfl) dX2_lookAt_36 rfl ⟨Nat.zero_le _, Nat.zero_le _⟩ (fun hr12 hs13 => ?_)
          refine V_if_eq (tgt := 54) (q := 42) hC hr12 dX2_lookAt_39 (by decide) rfl (fun c14 => ?_) (fun c14 => ?_)
          · replace hf := (if_pos c14).symm.trans hf
            refine V_iinc (i := 3) (lv' := [(0, rf G 2 0), (1, rf G 5 j1), (2, iv v2), (3, iv (wr (v3 + 1)))]) (q := 57) hC 3 rfl [1, 2, 3, 0] (by decide) rfl dX2_lookAt_54 rfl ?_
            refine V_goto (tgt := 20) hC dX2_lookAt_57 (by decide) ?_
            refine V_lsub [0, 1, 2, 3] rfl ?_
            exact ih.2 hs13 h2 (Rg_wr _) hf
          · replace hf := (if_neg c14).symm.trans hf
            refine V_aload_n (k := 0) (q := 43) hC 0 rfl dX2_lookAt_42 rfl ?_
            refine V_getf (T := TX2) (k := 0) (q := 46) hC uX2_lookAt_2 rfl iD2 rfl (by decide) kX2_lookAt_f9 rfl dX2_lookAt_43 rfl ?_
            refine V_iload_n (k := 2) (q := 47) hC 2 rfl dX2_lookAt_46 rfl ?_
            refine V_dup2 (q := 48) hC rfl rfl dX2_lookAt_47 rfl ?_
            obtain ⟨g15, hf⟩ := gd_some hf
            refine V_iald (n := 8) (q := 49) hC iD10 rfl g15 h2 dX2_lookAt_48 rfl ?_
            refine V_iconst (q := 50) hC dX2_lookAt_49 rfl ?_
            refine V_iload_n (k := 3) (q := 51) hC 3 rfl dX2_lookAt_50 rfl ?_
            refine V_ishl (q := 52) hC dX2_lookAt_51 rfl ?_
            refine V_ior (q := 53) hC dX2_lookAt_52 rfl ?_
            obtain ⟨g16, hf⟩ := gd_some hf
            obtain ⟨σ17, e18, hf⟩ := sq_ex hf
            have hs19 : RgS σ17 := by rw [e18]; exact RgS_hup hs13 (Rg_qor _ _)
            refine V_iast (n := 8) (q := 54) hC iD10 rfl g16 h2 e18 dX2_lookAt_53 rfl ?_
            refine V_iinc (i := 3) (lv' := [(0, rf G 2 0), (1, rf G 5 j1), (2, iv v2), (3, iv (wr (v3 + 1)))]) (q := 57) hC 3 rfl [1, 2, 3, 0] (by decide) rfl dX2_lookAt_54 rfl ?_
            refine V_goto (tgt := 20) hC dX2_lookAt_57 (by decide) ?_
            refine V_lsub [0, 1, 2, 3] rfl ?_
            exact ih.2 hs19 h2 (Rg_wr _) hf
set_option maxHeartbeats 4000000 in
set_option maxRecDepth 100000 in
theorem sX2_lookAt (l : Launch) {G : GT} (hG : GI G) {j1 : Nat} (hj1 : j1 < 28) {σ : Hp} (hs : RgS σ) {r0 : Int × Hp} (hf : fX2_lookAt σ j1 = some r0) : Ctv l G yX2_lookAt wsX2_lookAt rmX2_lookAt [rf G 2 0, rf G 5 j1] σ r0.2 := by
  unfold fX2_lookAt at hf
  refine Ctv_start (lv := [(0, rf G 2 0), (1, rf G 5 j1)]) (ret := none) (by decide +kernel) rfl hG (Nat.le_of_ble_eq_true rfl) rfl (fun p e s m args below meth c hC hr hlk => ?_)
  refine V_aload_n (k := 0) (q := 1) hC 0 rfl dX2_lookAt_0 rfl ?_
  refine V_getf (T := TX2) (k := 0) (q := 4) hC uX2_lookAt_2 rfl iD2 rfl (by decide) kX2_lookAt_f9 rfl dX2_lookAt_1 rfl ?_
  refine V_iconst (q := 5) hC dX2_lookAt_4 rfl ?_
  obtain ⟨r1, σ2, hc3, hf⟩ := cl_some hf
  refine V_csv (st := []) (q := 8) (σ0 := σ2) hC (sJ7_fill_53178 l hG iD10 (Rg_c rfl) hs hc3) (va_cwS 2 hC.2.2.2.2.1 gX2_lookAt_J7_fill_53178 rfl rfl rfl (by decide +kernel) ⟨Nat.le_of_ble_eq_true rfl, Nat.le_of_ble_eq_true rfl⟩) rfl rfl (Nat.le_of_ble_eq_true rfl) dX2_lookAt_5 rfl ⟨Nat.zero_le _, Nat.zero_le _⟩ (fun hs5 => ?_)
  refine V_iconst (q := 9) hC dX2_lookAt_8 rfl ?_
  refine V_istore_n (k := 2) (i := 2) (lv' := [(0, rf G 2 0), (1, rf G 5 j1), (2, iv 0)]) (q := 10) hC [1, 2, 0] rfl (by decide) rfl dX2_lookAt_9 rfl ?_
  refine V_lsub [0, 1, 2] rfl ?_
  exact (tlX2_lookAt_10 hG hC hr hlk hj1 FU).1 hs5 (Rg_c rfl) hf
/-! X6_isIn -/
abbrev rmX6_isIn : Room := { frames := 0, cells := 0, slots := 0, locals := 0 }
set_option maxHeartbeats 4000000 in
set_option maxRecDepth 100000 in
theorem sX6_isIn (l : Launch) {G : GT} (hG : GI G) {v0 : Int} {v1 : Int} (h0 : Rg v0) (h1 : Rg v1) {σ : Hp} (hs : RgS σ) : Cti l G yX6_isIn wsX6_isIn rmX6_isIn [iv v0, iv v1] σ (fX6_isIn v0 v1) σ := by
  obtain ⟨x0, hf⟩ : ∃ x, fX6_isIn v0 v1 = x := ⟨_, rfl⟩
  rw [hf]
  unfold fX6_isIn at hf
  refine Cti_start (lv := [(0, iv v0), (1, iv v1)]) (ret := (some .boolean)) (by decide +kernel) rfl hG (Nat.le_of_ble_eq_true rfl) rfl (fun p e s m args below meth c hC hr hlk => ?_)
  refine V_iload_n (k := 0) (q := 1) hC 0 rfl dX6_isIn_0 rfl ?_
  refine V_iload_n (k := 1) (q := 2) hC 1 rfl dX6_isIn_1 rfl ?_
  refine V_ishr (q := 3) hC dX6_isIn_2 rfl ?_
  refine V_iconst (q := 4) hC dX6_isIn_3 rfl ?_
  refine V_iand (q := 5) hC dX6_isIn_4 rfl ?_
  refine V_if_eq (tgt := 12) (q := 8) hC (Rg_qand _ _) dX6_isIn_5 (by decide) rfl (fun c1 => ?_) (fun c1 => ?_)
  · replace hf := (if_pos c1).symm.trans hf
    refine V_iconst (q := 13) hC dX6_isIn_12 rfl ?_
    exact V_zret hC hr hlk (Or.inl rfl) hf rfl hs dX6_isIn_13
  · replace hf := (if_neg c1).symm.trans hf
    refine V_iconst (q := 9) hC dX6_isIn_8 rfl ?_
    refine V_goto (tgt := 13) hC dX6_isIn_9 (by decide) ?_
    exact V_zret hC hr hlk (Or.inr rfl) hf rfl hs dX6_isIn_13
/-! X2_nextTo -/
theorem kX2_nextTo_iX6 : Cond.initialized RX6 ∈ wsX2_nextTo := by decide +kernel
theorem kX2_nextTo_sX6_isIn : Cond.static yX6_isIn ∈ wsX2_nextTo := by decide +kernel
theorem kX2_nextTo_f9 : Cond.fieldLink RX2 9 "BarkNames$Reading" "asOneWith" "[I" ∈ wsX2_nextTo := by decide +kernel
theorem uX2_nextTo_2 : ∀ w ∈ u_ws RX2 TX2 1, w ∈ wsX2_nextTo := by decide +kernel
abbrev rmX2_nextTo : Room := { frames := 1, cells := 0, slots := 0, locals := 21 }
set_option maxHeartbeats 4000000 in
set_option maxRecDepth 100000 in
theorem tlX2_nextTo_4 {p : Program} {l : Launch} {e : Env} {s : State} {m : MethodId} {args : Array Value} {below : List Frame} {meth : Method} {c : Code} {G : GT} (hG : GI G) (hC : CX p s m args c cX2_nextTo 4 RX2 wsX2_nextTo G (AA G)) (hr : meth.sig.returnType = (some .int)) (hlk : meth.locks = false) {r0 : Int × Hp} : ∀ n : Nat, (∀ {σ : Hp} (hs : RgS σ) {v1 : Int} {v2 : Int} {v3 : Int} (h1 : Rg v1) (h2 : Rg v2) (h3 : Rg v3) (hf : lX2_nextTo_4 n σ v1 v2 v3 = some r0), VV p l e (headSpec wsX2_nextTo rmX2_nextTo).room s m args below meth c (MQ below (QI G r0.1 r0.2) args s 0 0 (AA G)) G (AA G) 0 0 4 σ 4 [(0, rf G 2 0), (1, iv v1), (2, iv v2), (3, iv v3)] []) := by
  intro n
  induction n with
  | zero =>
    exact by intro σ hs v1 v2 v3 h1 h2 h3 hf; exact absurd (show (none : Option (Int × Hp)) = some r0 from hf) (fun z => by cases z)
  | succ n ih =>
    intro σ hs v1 v2 v3 h1 h2 h3 hf
    replace hf := (lX2_nextTo_4_e0 n σ v1 v2 v3).symm.trans hf
    refine V_iload_n (k := 3) (q := 5) hC 3 rfl dX2_nextTo_4 rfl ?_
    refine V_bipush (q := 7) hC (by decide) dX2_nextTo_5 rfl ?_
    refine V_icmp_ge (tgt := 37) (q := 10) hC h3 (Rg_c rfl) dX2_nextTo_7 (by decide) rfl (fun c1 => ?_) (fun c1 => ?_)
    · replace hf := (if_pos c1).symm.trans hf
      refine V_iload_n (k := 2) (q := 38) hC 2 rfl dX2_nextTo_37 rfl ?_
      exact V_iret hC hr hlk (re_1 hf) (re_2 hf) h2 hs dX2_nextTo_38
    · replace hf := (if_neg c1).symm.trans hf
      refine V_iload_n (k := 2) (q := 11) hC 2 rfl dX2_nextTo_10 rfl ?_
      refine V_iload_n (k := 1) (q := 12) hC 1 rfl dX2_nextTo_11 rfl ?_
      refine V_iload_n (k := 3) (q := 13) hC 3 rfl dX2_nextTo_12 rfl ?_
      refine V_cni (st := [iv v2]) (q := 16) hC (sX6_isIn l hG h1 h3 hs) ⟨va_cnB 2 hC.2.2.2.2.1 gX2_nextTo_X6_isIn_n35 rfl rfl rfl (hC.2.2.2.2.2.1.2.1 _ (List.mem_of_getElem? (i := 7) rfl)) (hC.2.2.2.2.1 _ kX2_nextTo_iX6) (by decide +kernel) ⟨Nat.le_of_ble_eq_true rfl, Nat.le_of_ble_eq_true rfl⟩, hC.2.2.2.2.1 _ kX2_nextTo_sX6_isIn, trivial⟩ rfl rfl (Nat.le_of_ble_eq_true rfl) dX2_nextTo_13 rfl ⟨Nat.zero_le _, Nat.zero_le _⟩ (fun hr2 _ => ?_)
      refine V_if_eq (tgt := 28) (q := 19) hC hr2 dX2_nextTo_16 (by decide) rfl (fun c3 => ?_) (fun c3 => ?_)
      · replace hf := (if_pos c3).symm.trans hf
        refine V_iconst (q := 29) hC dX2_nextTo_28 rfl ?_
        refine V_ior (q := 30) hC dX2_nextTo_29 rfl ?_
        refine V_istore_n (k := 2) (i := 2) (lv' := [(0, rf G 2 0), (1, iv v1), (2, iv (qor v2 0)), (3, iv v3)]) (q := 31) hC [1, 2, 0, 3] rfl (by decide) rfl dX2_nextTo_30 rfl ?_
        refine V_iinc (i := 3) (lv' := [(0, rf G 2 0), (1, iv v1), (2, iv (qor v2 0)), (3, iv (wr (v3 + 1)))]) (q := 34) hC 3 rfl [1, 2, 3, 0] (by decide) rfl dX2_nextTo_31 rfl ?_
        refine V_goto (tgt := 4) hC dX2_nextTo_34 (by decide) ?_
        refine V_lsub [0, 1, 2, 3] rfl ?_
        exact ih hs h1 (Rg_qor _ _) (Rg_wr _) hf
      · replace hf := (if_neg c3).symm.trans hf
        refine V_aload_n (k := 0) (q := 20) hC 0 rfl dX2_nextTo_19 rfl ?_
        refine V_getf (T := TX2) (k := 0) (q := 23) hC uX2_nextTo_2 rfl iD2 rfl (by decide) kX2_nextTo_f9 rfl dX2_nextTo_20 rfl ?_
        refine V_iload_n (k := 3) (q := 24) hC 3 rfl dX2_nextTo_23 rfl ?_
        obtain ⟨g4, hf⟩ := gd_some hf
        refine V_iald (n := 8) (q := 25) hC iD10 rfl g4 h3 dX2_nextTo_24 rfl ?_
        refine V_goto (tgt := 29) hC dX2_nextTo_25 (by decide) ?_
        refine V_ior (q := 30) hC dX2_nextTo_29 rfl ?_
        refine V_istore_n (k := 2) (i := 2) (lv' := [(0, rf G 2 0), (1, iv v1), (2, iv (qor v2 (σ 10 0 v3.toNat))), (3, iv v3)]) (q := 31) hC [1, 2, 0, 3] rfl (by decide) rfl dX2_nextTo_30 rfl ?_
        refine V_iinc (i := 3) (lv' := [(0, rf G 2 0), (1, iv v1), (2, iv (qor v2 (σ 10 0 v3.toNat))), (3, iv (wr (v3 + 1)))]) (q := 34) hC 3 rfl [1, 2, 3, 0] (by decide) rfl dX2_nextTo_31 rfl ?_
        refine V_goto (tgt := 4) hC dX2_nextTo_34 (by decide) ?_
        refine V_lsub [0, 1, 2, 3] rfl ?_
        exact ih hs h1 (Rg_qor _ _) (Rg_wr _) hf
set_option maxHeartbeats 4000000 in
set_option maxRecDepth 100000 in
theorem sX2_nextTo (l : Launch) {G : GT} (hG : GI G) {v1 : Int} (h1 : Rg v1) {σ : Hp} (hs : RgS σ) {r0 : Int × Hp} (hf : fX2_nextTo σ v1 = some r0) : Cti l G yX2_nextTo wsX2_nextTo rmX2_nextTo [rf G 2 0, iv v1] σ r0.1 r0.2 := by
  unfold fX2_nextTo at hf
  refine Cti_start (lv := [(0, rf G 2 0), (1, iv v1)]) (ret := (some .int)) (by decide +kernel) rfl hG (Nat.le_of_ble_eq_true rfl) rfl (fun p e s m args below meth c hC hr hlk => ?_)
  refine V_iconst (q := 1) hC dX2_nextTo_0 rfl ?_
  refine V_istore_n (k := 2) (i := 2) (lv' := [(0, rf G 2 0), (1, iv v1), (2, iv 0)]) (q := 2) hC [1, 2, 0] rfl (by decide) rfl dX2_nextTo_1 rfl ?_
  refine V_iconst (q := 3) hC dX2_nextTo_2 rfl ?_
  refine V_istore_n (k := 3) (i := 3) (lv' := [(0, rf G 2 0), (1, iv v1), (2, iv 0), (3, iv 0)]) (q := 4) hC [1, 2, 3, 0] rfl (by decide) rfl dX2_nextTo_3 rfl ?_
  refine V_lsub [0, 1, 2, 3] rfl ?_
  exact (tlX2_nextTo_4 hG hC hr hlk FU) hs h1 (Rg_c rfl) (Rg_c rfl) hf
/-! X2_reached -/
abbrev rmX2_reached : Room := { frames := 2, cells := 0, slots := 0, locals := 44 }
set_option maxHeartbeats 4000000 in
set_option maxRecDepth 100000 in
theorem tlX2_reached_10 {p : Program} {l : Launch} {e : Env} {s : State} {m : MethodId} {args : Array Value} {below : List Frame} {meth : Method} {c : Code} {G : GT} (hG : GI G) (hC : CX p s m args c cX2_reached 6 RX2 wsX2_reached G (AA G)) (hr : meth.sig.returnType = (some .int)) (hlk : meth.locks = false) {r0 : Int × Hp} : ∀ n : Nat, (∀ {σ : Hp} (hs : RgS σ) {v2 : Int} {v3 : Int} {v4 : Int} {v5 : Int} (h2 : Rg v2) (h3 : Rg v3) (h4 : Rg v4) (h5 : Rg v5) (hf : lX2_reached_10 n σ v2 v3 v4 v5 = some r0), VV p l e (headSpec wsX2_reached rmX2_reached).room s m args below meth c (MQ below (QI G r0.1 r0.2) args s 0 0 (AA G)) G (AA G) 0 0 6 σ 10 [(0, rf G 2 0), (2, iv v2), (3, iv v3), (4, iv v4), (5, iv v5)] []) := by
  intro n
  induction n with
  | zero =>
    exact by intro σ hs v2 v3 v4 v5 h2 h3 h4 h5 hf; exact absurd (show (none : Option (Int × Hp)) = some r0 from hf) (fun z => by cases z)
  | succ n ih =>
    intro σ hs v2 v3 v4 v5 h2 h3 h4 h5 hf
    replace hf := (lX2_reached_10_e0 n σ v2 v3 v4 v5).symm.trans hf
    refine V_iload (k := 5) (q := 12) hC 4 rfl dX2_reached_10 rfl ?_
    refine V_bipush (q := 14) hC (by decide) dX2_reached_12 rfl ?_
    refine V_icmp_ge (tgt := 47) (q := 17) hC h5 (Rg_c rfl) dX2_reached_14 (by decide) rfl (fun c1 => ?_) (fun c1 => ?_)
    · replace hf := (if_pos c1).symm.trans hf
      refine V_iload_n (k := 3) (q := 48) hC 2 rfl dX2_reached_47 rfl ?_
      exact V_iret hC hr hlk (re_1 hf) (re_2 hf) h3 hs dX2_reached_48
    · replace hf := (if_neg c1).symm.trans hf
      refine V_iload (k := 4) (q := 19) hC 3 rfl dX2_reached_17 rfl ?_
      refine V_if_eq (tgt := 47) (q := 22) hC h4 dX2_reached_19 (by decide) rfl (fun c2 => ?_) (fun c2 => ?_)
      · replace hf := (if_pos c2).symm.trans hf
        refine V_iload_n (k := 3) (q := 48) hC 2 rfl dX2_reached_47 rfl ?_
        exact V_iret hC hr hlk (re_1 hf) (re_2 hf) h3 hs dX2_reached_48
      · replace hf := (if_neg c2).symm.trans hf
        refine V_aload_n (k := 0) (q := 23) hC 0 rfl dX2_reached_22 rfl ?_
        refine V_iload (k := 4) (q := 25) hC 3 rfl dX2_reached_23 rfl ?_
        obtain ⟨r3, σ4, hc5, hf⟩ := cl_some hf
        refine V_cvi (st := []) (q := 28) (x0 := r3) (σ0 := σ4) hC (sX2_nextTo l hG h4 hs hc5) (cwV 1 hC.2.2.2.2.1 gX2_reached_X2_nextTo rfl rfl rfl (by decide +kernel) ⟨Nat.le_of_ble_eq_true rfl, Nat.le_of_ble_eq_true rfl⟩) ⟨_, rfl, rfl⟩ iD2 (fun _ => ⟨_, rfl⟩) rfl rfl (Nat.le_of_ble_eq_true rfl) dX2_reached_25 rfl ⟨Nat.zero_le _, Nat.zero_le _⟩ (fun hr6 hs7 => ?_)
        refine V_iload_n (k := 2) (q := 29) hC 1 rfl dX2_reached_28 rfl ?_
        refine V_iand (q := 30) hC dX2_reached_29 rfl ?_
        refine V_iload_n (k := 3) (q := 31) hC 2 rfl dX2_reached_30 rfl ?_
        refine V_iconst (q := 32) hC dX2_reached_31 rfl ?_
        refine V_ixor (q := 33) hC dX2_reached_32 rfl ?_
        refine V_iand (q := 34) hC dX2_reached_33 rfl ?_
        refine V_istore (i := 4) (lv' := [(0, rf G 2 0), (2, iv v2), (3, iv v3), (4, iv (qand (qand r3 v2) (qxor v3 (-1)))), (5, iv v5)]) (q := 36) hC [1, 2, 3, 0, 4] (by decide) rfl dX2_reached_34 rfl ?_
        refine V_iload_n (k := 3) (q := 37) hC 2 rfl dX2_reached_36 rfl ?_
        refine V_iload (k := 4) (q := 39) hC 3 rfl dX2_reached_37 rfl ?_
        refine V_ior (q := 40) hC dX2_reached_39 rfl ?_
        refine V_istore_n (k := 3) (i := 3) (lv' := [(0, rf G 2 0), (2, iv v2), (3, iv (qor v3 (qand (qand r3 v2) (qxor v3 (-1))))), (4, iv (qand (qand r3 v2) (qxor v3 (-1)))), (5, iv v5)]) (q := 41) hC [1, 2, 0, 3, 4] rfl (by decide) rfl dX2_reached_40 rfl ?_
        refine V_iinc (i := 5) (lv' := [(0, rf G 2 0), (2, iv v2), (3, iv (qor v3 (qand (qand r3 v2) (qxor v3 (-1))))), (4, iv (qand (qand r3 v2) (qxor v3 (-1)))), (5, iv (wr (v5 + 1)))]) (q := 44) hC 4 rfl [1, 2, 3, 4, 0] (by decide) rfl dX2_reached_41 rfl ?_
        refine V_goto (tgt := 10) hC dX2_reached_44 (by decide) ?_
        refine V_lsub [0, 1, 2, 3, 4] rfl ?_
        exact ih hs7 h2 (Rg_qor _ _) (Rg_qand _ _) (Rg_wr _) hf
set_option maxHeartbeats 4000000 in
set_option maxRecDepth 100000 in
theorem sX2_reached (l : Launch) {G : GT} (hG : GI G) {v1 : Int} {v2 : Int} (h1 : Rg v1) (h2 : Rg v2) {σ : Hp} (hs : RgS σ) {r0 : Int × Hp} (hf : fX2_reached σ v1 v2 = some r0) : Cti l G yX2_reached wsX2_reached rmX2_reached [rf G 2 0, iv v1, iv v2] σ r0.1 r0.2 := by
  unfold fX2_reached at hf
  refine Cti_start (lv := [(0, rf G 2 0), (1, iv v1), (2, iv v2)]) (ret := (some .int)) (by decide +kernel) rfl hG (Nat.le_of_ble_eq_true rfl) rfl (fun p e s m args below meth c hC hr hlk => ?_)
  refine V_iconst (q := 1) hC dX2_reached_0 rfl ?_
  refine V_iload_n (k := 1) (q := 2) hC 1 rfl dX2_reached_1 rfl ?_
  refine V_ishl (q := 3) hC dX2_reached_2 rfl ?_
  refine V_istore_n (k := 3) (i := 3) (lv' := [(0, rf G 2 0), (1, iv v1), (2, iv v2), (3, iv (qshl 1 v1))]) (q := 4) hC [1, 2, 3, 0] rfl (by decide) rfl dX2_reached_3 rfl ?_
  refine V_iload_n (k := 3) (q := 5) hC 3 rfl dX2_reached_4 rfl ?_
  refine V_istore (i := 4) (lv' := [(0, rf G 2 0), (1, iv v1), (2, iv v2), (3, iv (qshl 1 v1)), (4, iv (qshl 1 v1))]) (q := 7) hC [1, 2, 3, 4, 0] (by decide) rfl dX2_reached_5 rfl ?_
  refine V_iconst (q := 8) hC dX2_reached_7 rfl ?_
  refine V_istore (i := 5) (lv' := [(0, rf G 2 0), (1, iv v1), (2, iv v2), (3, iv (qshl 1 v1)), (4, iv (qshl 1 v1)), (5, iv 0)]) (q := 10) hC [1, 2, 3, 4, 5, 0] (by decide) rfl dX2_reached_8 rfl ?_
  refine V_lsub [0, 2, 3, 4, 5] rfl ?_
  exact (tlX2_reached_10 hG hC hr hlk FU) hs h2 (Rg_qshl _ _) (Rg_qshl _ _) (Rg_c rfl) hf
/-! X3_begin -/
theorem kX3_begin_f15 : Cond.fieldLink RX3 15 "BarkNames$Row" "there" "Z" ∈ wsX3_begin := by decide +kernel
theorem uX3_begin_3 : ∀ w ∈ u_ws RX3 TX3 4, w ∈ wsX3_begin := by decide +kernel
theorem kX3_begin_f19 : Cond.fieldLink RX3 19 "BarkNames$Row" "lane" "I" ∈ wsX3_begin := by decide +kernel
theorem kX3_begin_f23 : Cond.fieldLink RX3 23 "BarkNames$Row" "size" "I" ∈ wsX3_begin := by decide +kernel
theorem kX3_begin_f9 : Cond.fieldLink RX3 9 "BarkNames$Row" "items" "[I" ∈ wsX3_begin := by decide +kernel
abbrev rmX3_begin : Room := { frames := 1, cells := 0, slots := 0, locals := 23 }
set_option maxHeartbeats 4000000 in
set_option maxRecDepth 100000 in
theorem sX3_begin (l : Launch) {G : GT} (hG : GI G) {j0 : Nat} {v1 : Int} {v2 : Int} (hj0 : j0 < 8) (h1 : Rg v1) (h2 : Rg v2) {σ : Hp} (hs : RgS σ) {r0 : Int × Hp} (hf : fX3_begin σ j0 v1 v2 = some r0) : Ctv l G yX3_begin wsX3_begin rmX3_begin [rf G 3 j0, iv v1, iv v2] σ r0.2 := by
  unfold fX3_begin at hf
  refine Ctv_start (lv := [(0, rf G 3 j0), (1, iv v1), (2, iv v2)]) (ret := none) (by decide +kernel) rfl hG (Nat.le_of_ble_eq_true rfl) rfl (fun p e s m args below meth c hC hr hlk => ?_)
  refine V_aload_n (k := 0) (q := 1) hC 0 rfl dX3_begin_0 rfl ?_
  refine V_iconst (q := 2) hC dX3_begin_1 rfl ?_
  obtain ⟨σ1, e2, hf⟩ := sq_ex hf
  have hs3 : RgS σ1 := by rw [e2]; exact RgS_hup hs (Rg_c rfl)
  refine V_putf (T := TX3) (k := 1) (ty := .boolean) (q := 5) hC uX3_begin_3 rfl tyX3 tyX3_ok nmX3 (iM3 hj0) rfl (pf_3_1 _ _ _ _ rfl) (by decide) kX3_begin_f15 rfl (by decide +kernel) (nz_b (Or.inr rfl)) (fz_b (Or.inr rfl)) (Nat.le_of_ble_eq_true rfl) e2 dX3_begin_2 rfl ?_
  refine V_aload_n (k := 0) (q := 6) hC 0 rfl dX3_begin_5 rfl ?_
  refine V_iload_n (k := 1) (q := 7) hC 1 rfl dX3_begin_6 rfl ?_
  obtain ⟨σ4, e5, hf⟩ := sq_ex hf
  have hs6 : RgS σ4 := by rw [e5]; exact RgS_hup hs3 h1
  refine V_putf (T := TX3) (k := 2) (ty := .int) (q := 10) hC uX3_begin_3 rfl tyX3 tyX3_ok nmX3 (iM3 hj0) rfl (pf_3_2 _ _ _ _ rfl) (by decide) kX3_begin_f19 rfl (by decide +kernel) rfl rfl (Nat.le_of_ble_eq_true rfl) e5 dX3_begin_7 rfl ?_
  refine V_aload_n (k := 0) (q := 11) hC 0 rfl dX3_begin_10 rfl ?_
  refine V_iload_n (k := 2) (q := 12) hC 2 rfl dX3_begin_11 rfl ?_
  obtain ⟨σ7, e8, hf⟩ := sq_ex hf
  have hs9 : RgS σ7 := by rw [e8]; exact RgS_hup hs6 h2
  refine V_putf (T := TX3) (k := 3) (ty := .int) (q := 15) hC uX3_begin_3 rfl tyX3 tyX3_ok nmX3 (iM3 hj0) rfl (pf_3_3 _ _ _ _ rfl) (by decide) kX3_begin_f23 rfl (by decide +kernel) rfl rfl (Nat.le_of_ble_eq_true rfl) e8 dX3_begin_12 rfl ?_
  refine V_aload_n (k := 0) (q := 16) hC 0 rfl dX3_begin_15 rfl ?_
  refine V_getf (T := TX3) (k := 0) (q := 19) hC uX3_begin_3 rfl (iM3 hj0) rfl (by decide) kX3_begin_f9 rfl dX3_begin_16 rfl ?_
  refine V_iconst (q := 20) hC dX3_begin_19 rfl ?_
  obtain ⟨r10, σ11, hc12, hf⟩ := cl_some hf
  refine V_csv (st := []) (q := 23) (σ0 := σ11) hC (sJ7_fill_53178 l hG (iM11 hj0) (Rg_c rfl) hs9 hc12) (va_cwS 2 hC.2.2.2.2.1 gX3_begin_J7_fill_53178 rfl rfl rfl (by decide +kernel) ⟨Nat.le_of_ble_eq_true rfl, Nat.le_of_ble_eq_true rfl⟩) rfl rfl (Nat.le_of_ble_eq_true rfl) dX3_begin_20 rfl ⟨Nat.zero_le _, Nat.zero_le _⟩ (fun hs14 => ?_)
  exact V_vret hC hr hlk (re_2 hf) hs14 dX3_begin_23
/-! X3_narrowed -/
theorem kX3_narrowed_f19 : Cond.fieldLink RX3 19 "BarkNames$Row" "lane" "I" ∈ wsX3_narrowed := by decide +kernel
theorem uX3_narrowed_3 : ∀ w ∈ u_ws RX3 TX3 4, w ∈ wsX3_narrowed := by decide +kernel
abbrev rmX3_narrowed : Room := { frames := 0, cells := 0, slots := 0, locals := 0 }
set_option maxHeartbeats 4000000 in
set_option maxRecDepth 100000 in
theorem sX3_narrowed (l : Launch) {G : GT} (hG : GI G) {j0 : Nat} {v1 : Int} (hj0 : j0 < 8) (h1 : Rg v1) {σ : Hp} (hs : RgS σ) : Cti l G yX3_narrowed wsX3_narrowed rmX3_narrowed [rf G 3 j0, iv v1] σ (fX3_narrowed σ j0 v1) σ := by
  obtain ⟨x0, hf⟩ : ∃ x, fX3_narrowed σ j0 v1 = x := ⟨_, rfl⟩
  rw [hf]
  unfold fX3_narrowed at hf
  refine Cti_start (lv := [(0, rf G 3 j0), (1, iv v1)]) (ret := (some .int)) (by decide +kernel) rfl hG (Nat.le_of_ble_eq_true rfl) rfl (fun p e s m args below meth c hC hr hlk => ?_)
  refine V_aload_n (k := 0) (q := 1) hC 0 rfl dX3_narrowed_0 rfl ?_
  refine V_getf (T := TX3) (k := 2) (q := 4) hC uX3_narrowed_3 rfl (iM3 hj0) rfl (by decide) kX3_narrowed_f19 rfl dX3_narrowed_1 rfl ?_
  by_cases c1 : σ 3 j0 2 = 0
  · replace hf := (if_pos c1).symm.trans hf
    refine V_lookup (tgt := 32) (off := 28) hC (hs _ _ _) dX3_narrowed_4 (by decide) (by rw [c1]; rfl) (by decide) ?_
    refine V_iload_n (k := 1) (q := 33) hC 1 rfl dX3_narrowed_32 rfl ?_
    refine V_i2b (q := 34) hC dX3_narrowed_33 rfl ?_
    exact V_iret hC hr hlk hf rfl (Rg_qi8 _) hs dX3_narrowed_34
  · replace hf := (if_neg c1).symm.trans hf
    by_cases c2 : σ 3 j0 2 = 1
    · replace hf := (if_pos c2).symm.trans hf
      refine V_lookup (tgt := 35) (off := 31) hC (hs _ _ _) dX3_narrowed_4 (by decide) (by rw [c2]; rfl) (by decide) ?_
      refine V_iload_n (k := 1) (q := 36) hC 1 rfl dX3_narrowed_35 rfl ?_
      refine V_i2s (q := 37) hC dX3_narrowed_36 rfl ?_
      exact V_iret hC hr hlk hf rfl (Rg_qi16 _) hs dX3_narrowed_37
    · replace hf := (if_neg c2).symm.trans hf
      refine V_lookup (tgt := 38) (off := 34) hC (hs _ _ _) dX3_narrowed_4 (by decide) (by rw [lk_n c1, lk_n c2]; rfl) (by decide) ?_
      refine V_iload_n (k := 1) (q := 39) hC 1 rfl dX3_narrowed_38 rfl ?_
      exact V_iret hC hr hlk hf rfl h1 hs dX3_narrowed_39
/-! X3_spans -/
theorem kX3_spans_f23 : Cond.fieldLink RX3 23 "BarkNames$Row" "size" "I" ∈ wsX3_spans := by decide +kernel
theorem uX3_spans_3 : ∀ w ∈ u_ws RX3 TX3 4, w ∈ wsX3_spans := by decide +kernel
abbrev rmX3_spans : Room := { frames := 0, cells := 0, slots := 0, locals := 0 }
set_option maxHeartbeats 4000000 in
set_option maxRecDepth 100000 in
theorem sX3_spans (l : Launch) {G : GT} (hG : GI G) {j0 : Nat} {v1 : Int} {v2 : Int} (hj0 : j0 < 8) (h1 : Rg v1) (h2 : Rg v2) {σ : Hp} (hs : RgS σ) : Cti l G yX3_spans wsX3_spans rmX3_spans [rf G 3 j0, iv v1, iv v2] σ (fX3_spans σ j0 v1 v2) σ := by
  obtain ⟨x0, hf⟩ : ∃ x, fX3_spans σ j0 v1 v2 = x := ⟨_, rfl⟩
  rw [hf]
  unfold fX3_spans at hf
  refine Cti_start (lv := [(0, rf G 3 j0), (1, iv v1), (2, iv v2)]) (ret := (some .boolean)) (by decide +kernel) rfl hG (Nat.le_of_ble_eq_true rfl) rfl (fun p e s m args below meth c hC hr hlk => ?_)
  refine V_iload_n (k := 2) (q := 1) hC 2 rfl dX3_spans_0 rfl ?_
  refine V_if_lt (tgt := 22) (q := 4) hC h2 dX3_spans_1 (by decide) rfl (fun c1 => ?_) (fun c1 => ?_)
  · replace hf := (if_pos c1).symm.trans hf
    refine V_iconst (q := 23) hC dX3_spans_22 rfl ?_
    exact V_zret hC hr hlk (Or.inl rfl) hf rfl hs dX3_spans_23
  · replace hf := (if_neg c1).symm.trans hf
    refine V_iload_n (k := 1) (q := 5) hC 1 rfl dX3_spans_4 rfl ?_
    refine V_if_lt (tgt := 22) (q := 8) hC h1 dX3_spans_5 (by decide) rfl (fun c2 => ?_) (fun c2 => ?_)
    · replace hf := (if_pos c2).symm.trans hf
      refine V_iconst (q := 23) hC dX3_spans_22 rfl ?_
      exact V_zret hC hr hlk (Or.inl rfl) hf rfl hs dX3_spans_23
    · replace hf := (if_neg c2).symm.trans hf
      refine V_iload_n (k := 1) (q := 9) hC 1 rfl dX3_spans_8 rfl ?_
      refine V_aload_n (k := 0) (q := 10) hC 0 rfl dX3_spans_9 rfl ?_
      refine V_getf (T := TX3) (k := 3) (q := 13) hC uX3_spans_3 rfl (iM3 hj0) rfl (by decide) kX3_spans_f23 rfl dX3_spans_10 rfl ?_
      refine V_iload_n (k := 2) (q := 14) hC 2 rfl dX3_spans_13 rfl ?_
      refine V_isub (q := 15) hC dX3_spans_14 rfl ?_
      refine V_icmp_gt (tgt := 22) (q := 18) hC h1 (Rg_wr _) dX3_spans_15 (by decide) rfl (fun c3 => ?_) (fun c3 => ?_)
      · replace hf := (if_pos c3).symm.trans hf
        refine V_iconst (q := 23) hC dX3_spans_22 rfl ?_
        exact V_zret hC hr hlk (Or.inl rfl) hf rfl hs dX3_spans_23
      · replace hf := (if_neg c3).symm.trans hf
        refine V_iconst (q := 19) hC dX3_spans_18 rfl ?_
        refine V_goto (tgt := 23) hC dX3_spans_19 (by decide) ?_
        exact V_zret hC hr hlk (Or.inr rfl) hf rfl hs dX3_spans_23
/-! X4_takes -/
theorem kX4_takes_f15 : Cond.fieldLink RX4 15 "BarkNames$Tape" "length" "I" ∈ wsX4_takes := by decide +kernel
theorem uX4_takes_4 : ∀ w ∈ u_ws RX4 TX4 5, w ∈ wsX4_takes := by decide +kernel
theorem kX4_takes_f9 : Cond.fieldLink RX4 9 "BarkNames$Tape" "bytes" "[I" ∈ wsX4_takes := by decide +kernel
abbrev rmX4_takes : Room := { frames := 0, cells := 0, slots := 0, locals := 0 }
set_option maxHeartbeats 4000000 in
set_option maxRecDepth 100000 in
theorem sX4_takes (l : Launch) {G : GT} (hG : GI G) {v1 : Int} (h1 : Rg v1) {σ : Hp} (hs : RgS σ) {r0 : Int × Hp} (hf : fX4_takes σ v1 = some r0) : Cti l G yX4_takes wsX4_takes rmX4_takes [rf G 4 0, iv v1] σ r0.1 r0.2 := by
  unfold fX4_takes at hf
  refine Cti_start (lv := [(0, rf G 4 0), (1, iv v1)]) (ret := (some .boolean)) (by decide +kernel) rfl hG (Nat.le_of_ble_eq_true rfl) rfl (fun p e s m args below meth c hC hr hlk => ?_)
  refine V_aload_n (k := 0) (q := 1) hC 0 rfl dX4_takes_0 rfl ?_
  refine V_getf (T := TX4) (k := 1) (q := 4) hC uX4_takes_4 rfl iD4 rfl (by decide) kX4_takes_f15 rfl dX4_takes_1 rfl ?_
  refine V_aload_n (k := 0) (q := 5) hC 0 rfl dX4_takes_4 rfl ?_
  refine V_getf (T := TX4) (k := 0) (q := 8) hC uX4_takes_4 rfl iD4 rfl (by decide) kX4_takes_f9 rfl dX4_takes_5 rfl ?_
  refine V_alen (q := 9) (n := 140) hC iD12 rfl (by decide) dX4_takes_8 rfl ?_
  refine V_icmp_lt (tgt := 14) (q := 12) hC (hs _ _ _) (Rg_c rfl) dX4_takes_9 (by decide) rfl (fun c1 => ?_) (fun c1 => ?_)
  · replace hf := (if_pos c1).symm.trans hf
    refine V_aload_n (k := 0) (q := 15) hC 0 rfl dX4_takes_14 rfl ?_
    refine V_getf (T := TX4) (k := 0) (q := 18) hC uX4_takes_4 rfl iD4 rfl (by decide) kX4_takes_f9 rfl dX4_takes_15 rfl ?_
    refine V_aload_n (k := 0) (q := 19) hC 0 rfl dX4_takes_18 rfl ?_
    refine V_getf (T := TX4) (k := 1) (q := 22) hC uX4_takes_4 rfl iD4 rfl (by decide) kX4_takes_f15 rfl dX4_takes_19 rfl ?_
    refine V_iload_n (k := 1) (q := 23) hC 1 rfl dX4_takes_22 rfl ?_
    obtain ⟨g2, hf⟩ := gd_some hf
    obtain ⟨σ3, e4, hf⟩ := sq_ex hf
    have hs5 : RgS σ3 := by rw [e4]; exact RgS_hup hs h1
    refine V_iast (n := 140) (q := 24) hC iD12 rfl g2 (hs _ _ _) e4 dX4_takes_23 rfl ?_
    refine V_aload_n (k := 0) (q := 25) hC 0 rfl dX4_takes_24 rfl ?_
    refine V_dup (q := 26) hC rfl dX4_takes_25 rfl ?_
    refine V_getf (T := TX4) (k := 1) (q := 29) hC uX4_takes_4 rfl iD4 rfl (by decide) kX4_takes_f15 rfl dX4_takes_26 rfl ?_
    refine V_iconst (q := 30) hC dX4_takes_29 rfl ?_
    refine V_iadd (q := 31) hC dX4_takes_30 rfl ?_
    obtain ⟨σ6, e7, hf⟩ := sq_ex hf
    have hs8 : RgS σ6 := by rw [e7]; exact RgS_hup hs5 (Rg_wr _)
    refine V_putf (T := TX4) (k := 1) (ty := .int) (q := 34) hC uX4_takes_4 rfl tyX4 tyX4_ok nmX4 iD4 rfl (pf_4_1 _ _ _ _ rfl) (by decide) kX4_takes_f15 rfl (by decide +kernel) rfl rfl (Nat.le_of_ble_eq_true rfl) e7 dX4_takes_31 rfl ?_
    refine V_iconst (q := 35) hC dX4_takes_34 rfl ?_
    exact V_zret hC hr hlk (Or.inr rfl) (re_1 hf) (re_2 hf) hs8 dX4_takes_35
  · replace hf := (if_neg c1).symm.trans hf
    refine V_iconst (q := 13) hC dX4_takes_12 rfl ?_
    exact V_zret hC hr hlk (Or.inl rfl) (re_1 hf) (re_2 hf) hs dX4_takes_13
/-! X4_here -/
theorem kX4_here_f19 : Cond.fieldLink RX4 19 "BarkNames$Tape" "at" "I" ∈ wsX4_here := by decide +kernel
theorem uX4_here_4 : ∀ w ∈ u_ws RX4 TX4 5, w ∈ wsX4_here := by decide +kernel
theorem kX4_here_f15 : Cond.fieldLink RX4 15 "BarkNames$Tape" "length" "I" ∈ wsX4_here := by decide +kernel
theorem kX4_here_f9 : Cond.fieldLink RX4 9 "BarkNames$Tape" "bytes" "[I" ∈ wsX4_here := by decide +kernel
abbrev rmX4_here : Room := { frames := 0, cells := 0, slots := 0, locals := 0 }
set_option maxHeartbeats 4000000 in
set_option maxRecDepth 100000 in
theorem sX4_here (l : Launch) {G : GT} (hG : GI G) {σ : Hp} (hs : RgS σ) {r0 : Int × Hp} (hf : fX4_here σ = some r0) : Cti l G yX4_here wsX4_here rmX4_here [rf G 4 0] σ r0.1 r0.2 := by
  unfold fX4_here at hf
  refine Cti_start (lv := [(0, rf G 4 0)]) (ret := (some .int)) (by decide +kernel) rfl hG (Nat.le_of_ble_eq_true rfl) rfl (fun p e s m args below meth c hC hr hlk => ?_)
  refine V_aload_n (k := 0) (q := 1) hC 0 rfl dX4_here_0 rfl ?_
  refine V_getf (T := TX4) (k := 4) (q := 4) hC uX4_here_4 rfl iD4 rfl (by decide) kX4_here_f19 rfl dX4_here_1 rfl ?_
  refine V_aload_n (k := 0) (q := 5) hC 0 rfl dX4_here_4 rfl ?_
  refine V_getf (T := TX4) (k := 1) (q := 8) hC uX4_here_4 rfl iD4 rfl (by decide) kX4_here_f15 rfl dX4_here_5 rfl ?_
  refine V_icmp_ge (tgt := 23) (q := 11) hC (hs _ _ _) (hs _ _ _) dX4_here_8 (by decide) rfl (fun c1 => ?_) (fun c1 => ?_)
  · replace hf := (if_pos c1).symm.trans hf
    refine V_iconst (q := 24) hC dX4_here_23 rfl ?_
    exact V_iret hC hr hlk (re_1 hf) (re_2 hf) (Rg_c rfl) hs dX4_here_24
  · replace hf := (if_neg c1).symm.trans hf
    refine V_aload_n (k := 0) (q := 12) hC 0 rfl dX4_here_11 rfl ?_
    refine V_getf (T := TX4) (k := 0) (q := 15) hC uX4_here_4 rfl iD4 rfl (by decide) kX4_here_f9 rfl dX4_here_12 rfl ?_
    refine V_aload_n (k := 0) (q := 16) hC 0 rfl dX4_here_15 rfl ?_
    refine V_getf (T := TX4) (k := 4) (q := 19) hC uX4_here_4 rfl iD4 rfl (by decide) kX4_here_f19 rfl dX4_here_16 rfl ?_
    obtain ⟨g2, hf⟩ := gd_some hf
    refine V_iald (n := 140) (q := 20) hC iD12 rfl g2 (hs _ _ _) dX4_here_19 rfl ?_
    refine V_goto (tgt := 24) hC dX4_here_20 (by decide) ?_
    exact V_iret hC hr hlk (re_1 hf) (re_2 hf) (hs _ _ _) hs dX4_here_24
/-! X4_fails -/
theorem kX4_fails_f77 : Cond.fieldLink RX4 77 "BarkNames$Tape" "fault" "I" ∈ wsX4_fails := by decide +kernel
theorem uX4_fails_4 : ∀ w ∈ u_ws RX4 TX4 5, w ∈ wsX4_fails := by decide +kernel
theorem kX4_fails_f80 : Cond.fieldLink RX4 80 "BarkNames$Tape" "faultPlace" "I" ∈ wsX4_fails := by decide +kernel
abbrev rmX4_fails : Room := { frames := 0, cells := 0, slots := 0, locals := 0 }
set_option maxHeartbeats 4000000 in
set_option maxRecDepth 100000 in
theorem sX4_fails (l : Launch) {G : GT} (hG : GI G) {v1 : Int} {v2 : Int} (h1 : Rg v1) (h2 : Rg v2) {σ : Hp} (hs : RgS σ) {r0 : Int × Hp} (hf : fX4_fails σ v1 v2 = some r0) : Cti l G yX4_fails wsX4_fails rmX4_fails [rf G 4 0, iv v1, iv v2] σ r0.1 r0.2 := by
  unfold fX4_fails at hf
  refine Cti_start (lv := [(0, rf G 4 0), (1, iv v1), (2, iv v2)]) (ret := (some .boolean)) (by decide +kernel) rfl hG (Nat.le_of_ble_eq_true rfl) rfl (fun p e s m args below meth c hC hr hlk => ?_)
  refine V_aload_n (k := 0) (q := 1) hC 0 rfl dX4_fails_0 rfl ?_
  refine V_iload_n (k := 1) (q := 2) hC 1 rfl dX4_fails_1 rfl ?_
  obtain ⟨σ1, e2, hf⟩ := sq_ex hf
  have hs3 : RgS σ1 := by rw [e2]; exact RgS_hup hs h1
  refine V_putf (T := TX4) (k := 2) (ty := .int) (q := 5) hC uX4_fails_4 rfl tyX4 tyX4_ok nmX4 iD4 rfl (pf_4_2 _ _ _ _ rfl) (by decide) kX4_fails_f77 rfl (by decide +kernel) rfl rfl (Nat.le_of_ble_eq_true rfl) e2 dX4_fails_2 rfl ?_
  refine V_aload_n (k := 0) (q := 6) hC 0 rfl dX4_fails_5 rfl ?_
  refine V_iload_n (k := 2) (q := 7) hC 2 rfl dX4_fails_6 rfl ?_
  obtain ⟨σ4, e5, hf⟩ := sq_ex hf
  have hs6 : RgS σ4 := by rw [e5]; exact RgS_hup hs3 h2
  refine V_putf (T := TX4) (k := 3) (ty := .int) (q := 10) hC uX4_fails_4 rfl tyX4 tyX4_ok nmX4 iD4 rfl (pf_4_3 _ _ _ _ rfl) (by decide) kX4_fails_f80 rfl (by decide +kernel) rfl rfl (Nat.le_of_ble_eq_true rfl) e5 dX4_fails_7 rfl ?_
  refine V_iconst (q := 11) hC dX4_fails_10 rfl ?_
  exact V_zret hC hr hlk (Or.inl rfl) (re_1 hf) (re_2 hf) hs6 dX4_fails_11
/-! X4_reads -/
theorem kX4_reads_f19 : Cond.fieldLink RX4 19 "BarkNames$Tape" "at" "I" ∈ wsX4_reads := by decide +kernel
theorem uX4_reads_4 : ∀ w ∈ u_ws RX4 TX4 5, w ∈ wsX4_reads := by decide +kernel
abbrev rmX4_reads : Room := { frames := 1, cells := 0, slots := 0, locals := 22 }
set_option maxHeartbeats 4000000 in
set_option maxRecDepth 100000 in
theorem sX4_reads (l : Launch) {G : GT} (hG : GI G) {v1 : Int} (h1 : Rg v1) {σ : Hp} (hs : RgS σ) {r0 : Int × Hp} (hf : fX4_reads σ v1 = some r0) : Cti l G yX4_reads wsX4_reads rmX4_reads [rf G 4 0, iv v1] σ r0.1 r0.2 := by
  unfold fX4_reads at hf
  refine Cti_start (lv := [(0, rf G 4 0), (1, iv v1)]) (ret := (some .boolean)) (by decide +kernel) rfl hG (Nat.le_of_ble_eq_true rfl) rfl (fun p e s m args below meth c hC hr hlk => ?_)
  refine V_aload_n (k := 0) (q := 1) hC 0 rfl dX4_reads_0 rfl ?_
  obtain ⟨r1, σ2, hc3, hf⟩ := cl_some hf
  refine V_cvi (st := []) (q := 4) (x0 := r1) (σ0 := σ2) hC (sX4_here l hG  hs hc3) (cwV 0 hC.2.2.2.2.1 gX4_reads_X4_here rfl rfl rfl (by decide +kernel) ⟨Nat.le_of_ble_eq_true rfl, Nat.le_of_ble_eq_true rfl⟩) ⟨_, rfl, rfl⟩ iD4 (fun _ => ⟨_, rfl⟩) rfl rfl (Nat.le_of_ble_eq_true rfl) dX4_reads_1 rfl ⟨Nat.zero_le _, Nat.zero_le _⟩ (fun hr4 hs5 => ?_)
  refine V_iload_n (k := 1) (q := 5) hC 1 rfl dX4_reads_4 rfl ?_
  refine V_icmp_eq (tgt := 18) (q := 8) hC hr4 h1 dX4_reads_5 (by decide) rfl (fun c6 => ?_) (fun c6 => ?_)
  · replace hf := (if_pos c6).symm.trans hf
    refine V_aload_n (k := 0) (q := 19) hC 0 rfl dX4_reads_18 rfl ?_
    refine V_dup (q := 20) hC rfl dX4_reads_19 rfl ?_
    refine V_getf (T := TX4) (k := 4) (q := 23) hC uX4_reads_4 rfl iD4 rfl (by decide) kX4_reads_f19 rfl dX4_reads_20 rfl ?_
    refine V_iconst (q := 24) hC dX4_reads_23 rfl ?_
    refine V_iadd (q := 25) hC dX4_reads_24 rfl ?_
    obtain ⟨σ7, e8, hf⟩ := sq_ex hf
    have hs9 : RgS σ7 := by rw [e8]; exact RgS_hup hs5 (Rg_wr _)
    refine V_putf (T := TX4) (k := 4) (ty := .int) (q := 28) hC uX4_reads_4 rfl tyX4 tyX4_ok nmX4 iD4 rfl (pf_4_4 _ _ _ _ rfl) (by decide) kX4_reads_f19 rfl (by decide +kernel) rfl rfl (Nat.le_of_ble_eq_true rfl) e8 dX4_reads_25 rfl ?_
    refine V_iconst (q := 29) hC dX4_reads_28 rfl ?_
    exact V_zret hC hr hlk (Or.inr rfl) (re_1 hf) (re_2 hf) hs9 dX4_reads_29
  · replace hf := (if_neg c6).symm.trans hf
    refine V_aload_n (k := 0) (q := 9) hC 0 rfl dX4_reads_8 rfl ?_
    refine V_iconst (q := 10) hC dX4_reads_9 rfl ?_
    refine V_aload_n (k := 0) (q := 11) hC 0 rfl dX4_reads_10 rfl ?_
    refine V_getf (T := TX4) (k := 4) (q := 14) hC uX4_reads_4 rfl iD4 rfl (by decide) kX4_reads_f19 rfl dX4_reads_11 rfl ?_
    obtain ⟨r10, σ11, hc12, hf⟩ := cl_some hf
    refine V_cvi (st := []) (q := 17) (x0 := r10) (σ0 := σ11) hC (sX4_fails l hG (Rg_c rfl) (hs5 _ _ _) hs5 hc12) (cwV 2 hC.2.2.2.2.1 gX4_reads_X4_fails rfl rfl rfl (by decide +kernel) ⟨Nat.le_of_ble_eq_true rfl, Nat.le_of_ble_eq_true rfl⟩) ⟨_, rfl, rfl⟩ iD4 (fun _ => ⟨_, rfl⟩) rfl rfl (Nat.le_of_ble_eq_true rfl) dX4_reads_14 rfl ⟨Nat.zero_le _, Nat.zero_le _⟩ (fun hr13 hs14 => ?_)
    obtain ⟨g15, hf⟩ := gd_some hf
    exact V_zret hC hr hlk g15 (re_1 hf) (re_2 hf) hs14 dX4_reads_17
/-! X4_isFigure -/
abbrev rmX4_isFigure : Room := { frames := 0, cells := 0, slots := 0, locals := 0 }
set_option maxHeartbeats 4000000 in
set_option maxRecDepth 100000 in
theorem sX4_isFigure (l : Launch) {G : GT} (hG : GI G) {v0 : Int} (h0 : Rg v0) {σ : Hp} (hs : RgS σ) : Cti l G yX4_isFigure wsX4_isFigure rmX4_isFigure [iv v0] σ (fX4_isFigure v0) σ := by
  obtain ⟨x0, hf⟩ : ∃ x, fX4_isFigure v0 = x := ⟨_, rfl⟩
  rw [hf]
  unfold fX4_isFigure at hf
  refine Cti_start (lv := [(0, iv v0)]) (ret := (some .boolean)) (by decide +kernel) rfl hG (Nat.le_of_ble_eq_true rfl) rfl (fun p e s m args below meth c hC hr hlk => ?_)
  refine V_iload_n (k := 0) (q := 1) hC 0 rfl dX4_isFigure_0 rfl ?_
  refine V_bipush (q := 3) hC (by decide) dX4_isFigure_1 rfl ?_
  refine V_icmp_lt (tgt := 16) (q := 6) hC h0 (Rg_c rfl) dX4_isFigure_3 (by decide) rfl (fun c1 => ?_) (fun c1 => ?_)
  · replace hf := (if_pos c1).symm.trans hf
    refine V_iconst (q := 17) hC dX4_isFigure_16 rfl ?_
    exact V_zret hC hr hlk (Or.inl rfl) hf rfl hs dX4_isFigure_17
  · replace hf := (if_neg c1).symm.trans hf
    refine V_iload_n (k := 0) (q := 7) hC 0 rfl dX4_isFigure_6 rfl ?_
    refine V_bipush (q := 9) hC (by decide) dX4_isFigure_7 rfl ?_
    refine V_icmp_gt (tgt := 16) (q := 12) hC h0 (Rg_c rfl) dX4_isFigure_9 (by decide) rfl (fun c2 => ?_) (fun c2 => ?_)
    · replace hf := (if_pos c2).symm.trans hf
      refine V_iconst (q := 17) hC dX4_isFigure_16 rfl ?_
      exact V_zret hC hr hlk (Or.inl rfl) hf rfl hs dX4_isFigure_17
    · replace hf := (if_neg c2).symm.trans hf
      refine V_iconst (q := 13) hC dX4_isFigure_12 rfl ?_
      refine V_goto (tgt := 17) hC dX4_isFigure_13 (by decide) ?_
      exact V_zret hC hr hlk (Or.inr rfl) hf rfl hs dX4_isFigure_17
/-! X4_numberRead -/
theorem kX4_numberRead_f19 : Cond.fieldLink RX4 19 "BarkNames$Tape" "at" "I" ∈ wsX4_numberRead := by decide +kernel
theorem uX4_numberRead_4 : ∀ w ∈ u_ws RX4 TX4 5, w ∈ wsX4_numberRead := by decide +kernel
theorem kX4_numberRead_f15 : Cond.fieldLink RX4 15 "BarkNames$Tape" "length" "I" ∈ wsX4_numberRead := by decide +kernel
theorem kX4_numberRead_f9 : Cond.fieldLink RX4 9 "BarkNames$Tape" "bytes" "[I" ∈ wsX4_numberRead := by decide +kernel
abbrev rmX4_numberRead : Room := { frames := 1, cells := 0, slots := 0, locals := 22 }
set_option maxHeartbeats 4000000 in
set_option maxRecDepth 100000 in
theorem tjX4_numberRead_73 {p : Program} {l : Launch} {e : Env} {s : State} {m : MethodId} {args : Array Value} {below : List Frame} {meth : Method} {c : Code} {G : GT} (hG : GI G) (hC : CX p s m args c cX4_numberRead 6 RX4 wsX4_numberRead G (AA G)) (hr : meth.sig.returnType = (some .int)) (hlk : meth.locks = false) {r0 : Int × Hp} {σ : Hp} (hs : RgS σ) {v1 : Int} {v2 : Int} {v3 : Int} {v4 : Int} {v5 : Int} (h1 : Rg v1) (h2 : Rg v2) (h3 : Rg v3) (h4 : Rg v4) (h5 : Rg v5) (hf : jX4_numberRead_73 σ v1 v2 v3 v4 v5 = some r0) : VV p l e (headSpec wsX4_numberRead rmX4_numberRead).room s m args below meth c (MQ below (QI G r0.1 r0.2) args s 0 0 (AA G)) G (AA G) 0 0 6 σ 73 [(0, rf G 4 0), (1, iv v1), (2, iv v2), (3, iv v3), (4, iv v4), (5, iv v5)] [] := by
  unfold jX4_numberRead_73 at hf
  refine V_iload (k := 5) (q := 75) hC 5 rfl dX4_numberRead_73 rfl ?_
  refine V_iload_n (k := 3) (q := 76) hC 3 rfl dX4_numberRead_75 rfl ?_
  refine V_icmp_eq (tgt := 87) (q := 79) hC h5 h3 dX4_numberRead_76 (by decide) rfl (fun c7 => ?_) (fun c7 => ?_)
  · replace hf := (if_pos c7).symm.trans hf
    refine V_aload_n (k := 0) (q := 88) hC 0 rfl dX4_numberRead_87 rfl ?_
    refine V_iconst (q := 89) hC dX4_numberRead_88 rfl ?_
    refine V_iload_n (k := 3) (q := 90) hC 3 rfl dX4_numberRead_89 rfl ?_
    obtain ⟨r8, σ9, hc10, hf⟩ := cl_some hf
    refine V_cvi (st := []) (q := 93) (x0 := r8) (σ0 := σ9) hC (sX4_fails l hG (Rg_c rfl) h3 hs hc10) (cwV 2 hC.2.2.2.2.1 gX4_numberRead_X4_fails rfl rfl rfl (by decide +kernel) ⟨Nat.le_of_ble_eq_true rfl, Nat.le_of_ble_eq_true rfl⟩) ⟨_, rfl, rfl⟩ iD4 (fun _ => ⟨_, rfl⟩) rfl rfl (Nat.le_of_ble_eq_true rfl) dX4_numberRead_90 rfl ⟨Nat.zero_le _, Nat.zero_le _⟩ (fun hr11 hs12 => ?_)
    refine V_pop (q := 94) hC rfl dX4_numberRead_93 rfl ?_
    refine V_iconst (q := 95) hC dX4_numberRead_94 rfl ?_
    exact V_iret hC hr hlk (re_1 hf) (re_2 hf) (Rg_c rfl) hs12 dX4_numberRead_95
  · replace hf := (if_neg c7).symm.trans hf
    refine V_iload (k := 5) (q := 81) hC 5 rfl dX4_numberRead_79 rfl ?_
    refine V_iload_n (k := 3) (q := 82) hC 3 rfl dX4_numberRead_81 rfl ?_
    refine V_isub (q := 83) hC dX4_numberRead_82 rfl ?_
    refine V_iconst (q := 84) hC dX4_numberRead_83 rfl ?_
    refine V_icmp_le (tgt := 96) (q := 87) hC (Rg_wr _) (Rg_c rfl) dX4_numberRead_84 (by decide) rfl (fun c13 => ?_) (fun c13 => ?_)
    · replace hf := (if_pos c13).symm.trans hf
      refine V_iload (k := 4) (q := 98) hC 4 rfl dX4_numberRead_96 rfl ?_
      refine V_iload_n (k := 1) (q := 99) hC 1 rfl dX4_numberRead_98 rfl ?_
      refine V_icmp_lt (tgt := 108) (q := 102) hC h4 h1 dX4_numberRead_99 (by decide) rfl (fun c14 => ?_) (fun c14 => ?_)
      · replace hf := (if_pos c14).symm.trans hf
        refine V_aload_n (k := 0) (q := 109) hC 0 rfl dX4_numberRead_108 rfl ?_
        refine V_iconst (q := 110) hC dX4_numberRead_109 rfl ?_
        refine V_iload_n (k := 3) (q := 111) hC 3 rfl dX4_numberRead_110 rfl ?_
        obtain ⟨r15, σ16, hc17, hf⟩ := cl_some hf
        refine V_cvi (st := []) (q := 114) (x0 := r15) (σ0 := σ16) hC (sX4_fails l hG (Rg_c rfl) h3 hs hc17) (cwV 2 hC.2.2.2.2.1 gX4_numberRead_X4_fails rfl rfl rfl (by decide +kernel) ⟨Nat.le_of_ble_eq_true rfl, Nat.le_of_ble_eq_true rfl⟩) ⟨_, rfl, rfl⟩ iD4 (fun _ => ⟨_, rfl⟩) rfl rfl (Nat.le_of_ble_eq_true rfl) dX4_numberRead_111 rfl ⟨Nat.zero_le _, Nat.zero_le _⟩ (fun hr18 hs19 => ?_)
        refine V_pop (q := 115) hC rfl dX4_numberRead_114 rfl ?_
        refine V_iconst (q := 116) hC dX4_numberRead_115 rfl ?_
        exact V_iret hC hr hlk (re_1 hf) (re_2 hf) (Rg_c rfl) hs19 dX4_numberRead_116
      · replace hf := (if_neg c14).symm.trans hf
        refine V_iload (k := 4) (q := 104) hC 4 rfl dX4_numberRead_102 rfl ?_
        refine V_iload_n (k := 2) (q := 105) hC 2 rfl dX4_numberRead_104 rfl ?_
        refine V_icmp_le (tgt := 117) (q := 108) hC h4 h2 dX4_numberRead_105 (by decide) rfl (fun c20 => ?_) (fun c20 => ?_)
        · replace hf := (if_pos c20).symm.trans hf
          refine V_aload_n (k := 0) (q := 118) hC 0 rfl dX4_numberRead_117 rfl ?_
          refine V_iload (k := 5) (q := 120) hC 5 rfl dX4_numberRead_118 rfl ?_
          obtain ⟨σ21, e22, hf⟩ := sq_ex hf
          have hs23 : RgS σ21 := by rw [e22]; exact RgS_hup hs h5
          refine V_putf (T := TX4) (k := 4) (ty := .int) (q := 123) hC uX4_numberRead_4 rfl tyX4 tyX4_ok nmX4 iD4 rfl (pf_4_4 _ _ _ _ rfl) (by decide) kX4_numberRead_f19 rfl (by decide +kernel) rfl rfl (Nat.le_of_ble_eq_true rfl) e22 dX4_numberRead_120 rfl ?_
          refine V_iload (k := 4) (q := 125) hC 4 rfl dX4_numberRead_123 rfl ?_
          exact V_iret hC hr hlk (re_1 hf) (re_2 hf) h4 hs23 dX4_numberRead_125
        · replace hf := (if_neg c20).symm.trans hf
          refine V_aload_n (k := 0) (q := 109) hC 0 rfl dX4_numberRead_108 rfl ?_
          refine V_iconst (q := 110) hC dX4_numberRead_109 rfl ?_
          refine V_iload_n (k := 3) (q := 111) hC 3 rfl dX4_numberRead_110 rfl ?_
          obtain ⟨r24, σ25, hc26, hf⟩ := cl_some hf
          refine V_cvi (st := []) (q := 114) (x0 := r24) (σ0 := σ25) hC (sX4_fails l hG (Rg_c rfl) h3 hs hc26) (cwV 2 hC.2.2.2.2.1 gX4_numberRead_X4_fails rfl rfl rfl (by decide +kernel) ⟨Nat.le_of_ble_eq_true rfl, Nat.le_of_ble_eq_true rfl⟩) ⟨_, rfl, rfl⟩ iD4 (fun _ => ⟨_, rfl⟩) rfl rfl (Nat.le_of_ble_eq_true rfl) dX4_numberRead_111 rfl ⟨Nat.zero_le _, Nat.zero_le _⟩ (fun hr27 hs28 => ?_)
          refine V_pop (q := 115) hC rfl dX4_numberRead_114 rfl ?_
          refine V_iconst (q := 116) hC dX4_numberRead_115 rfl ?_
          exact V_iret hC hr hlk (re_1 hf) (re_2 hf) (Rg_c rfl) hs28 dX4_numberRead_116
    · replace hf := (if_neg c13).symm.trans hf
      refine V_aload_n (k := 0) (q := 88) hC 0 rfl dX4_numberRead_87 rfl ?_
      refine V_iconst (q := 89) hC dX4_numberRead_88 rfl ?_
      refine V_iload_n (k := 3) (q := 90) hC 3 rfl dX4_numberRead_89 rfl ?_
      obtain ⟨r29, σ30, hc31, hf⟩ := cl_some hf
      refine V_cvi (st := []) (q := 93) (x0 := r29) (σ0 := σ30) hC (sX4_fails l hG (Rg_c rfl) h3 hs hc31) (cwV 2 hC.2.2.2.2.1 gX4_numberRead_X4_fails rfl rfl rfl (by decide +kernel) ⟨Nat.le_of_ble_eq_true rfl, Nat.le_of_ble_eq_true rfl⟩) ⟨_, rfl, rfl⟩ iD4 (fun _ => ⟨_, rfl⟩) rfl rfl (Nat.le_of_ble_eq_true rfl) dX4_numberRead_90 rfl ⟨Nat.zero_le _, Nat.zero_le _⟩ (fun hr32 hs33 => ?_)
      refine V_pop (q := 94) hC rfl dX4_numberRead_93 rfl ?_
      refine V_iconst (q := 95) hC dX4_numberRead_94 rfl ?_
      exact V_iret hC hr hlk (re_1 hf) (re_2 hf) (Rg_c rfl) hs33 dX4_numberRead_95
set_option maxHeartbeats 4000000 in
set_option maxRecDepth 100000 in
theorem tlX4_numberRead_14 {p : Program} {l : Launch} {e : Env} {s : State} {m : MethodId} {args : Array Value} {below : List Frame} {meth : Method} {c : Code} {G : GT} (hG : GI G) (hC : CX p s m args c cX4_numberRead 6 RX4 wsX4_numberRead G (AA G)) (hr : meth.sig.returnType = (some .int)) (hlk : meth.locks = false) {r0 : Int × Hp} : ∀ n : Nat, (∀ {σ : Hp} (hs : RgS σ) {v1 : Int} {v2 : Int} {v3 : Int} {v4 : Int} {v5 : Int} (h1 : Rg v1) (h2 : Rg v2) (h3 : Rg v3) (h4 : Rg v4) (h5 : Rg v5) (hf : lX4_numberRead_14 n σ v1 v2 v3 v4 v5 = some r0), VV p l e (headSpec wsX4_numberRead rmX4_numberRead).room s m args below meth c (MQ below (QI G r0.1 r0.2) args s 0 0 (AA G)) G (AA G) 0 0 6 σ 14 [(0, rf G 4 0), (1, iv v1), (2, iv v2), (3, iv v3), (4, iv v4), (5, iv v5)] []) := by
  intro n
  induction n with
  | zero =>
    exact by intro σ hs v1 v2 v3 v4 v5 h1 h2 h3 h4 h5 hf; exact absurd (show (none : Option (Int × Hp)) = some r0 from hf) (fun z => by cases z)
  | succ n ih =>
    intro σ hs v1 v2 v3 v4 v5 h1 h2 h3 h4 h5 hf
    replace hf := (lX4_numberRead_14_e0 n σ v1 v2 v3 v4 v5).symm.trans hf
    refine V_iload (k := 5) (q := 16) hC 5 rfl dX4_numberRead_14 rfl ?_
    refine V_aload_n (k := 0) (q := 17) hC 0 rfl dX4_numberRead_16 rfl ?_
    refine V_getf (T := TX4) (k := 1) (q := 20) hC uX4_numberRead_4 rfl iD4 rfl (by decide) kX4_numberRead_f15 rfl dX4_numberRead_17 rfl ?_
    refine V_icmp_ge (tgt := 73) (q := 23) hC h5 (hs _ _ _) dX4_numberRead_20 (by decide) rfl (fun c1 => ?_) (fun c1 => ?_)
    · replace hf := (if_pos c1).symm.trans hf
      refine V_lsub [0, 1, 2, 3, 4, 5] rfl ?_
      exact tjX4_numberRead_73 hG hC hr hlk hs h1 h2 h3 h4 h5 hf
    · replace hf := (if_neg c1).symm.trans hf
      refine V_aload_n (k := 0) (q := 24) hC 0 rfl dX4_numberRead_23 rfl ?_
      refine V_getf (T := TX4) (k := 0) (q := 27) hC uX4_numberRead_4 rfl iD4 rfl (by decide) kX4_numberRead_f9 rfl dX4_numberRead_24 rfl ?_
      refine V_iload (k := 5) (q := 29) hC 5 rfl dX4_numberRead_27 rfl ?_
      obtain ⟨g2, hf⟩ := gd_some hf
      refine V_iald (n := 140) (q := 30) hC iD12 rfl g2 h5 dX4_numberRead_29 rfl ?_
      refine V_csi (st := []) (q := 33) hC (sX4_isFigure l hG (hs _ _ _) hs) (va_cwS 1 hC.2.2.2.2.1 gX4_numberRead_X4_isFigure rfl rfl rfl (by decide +kernel) ⟨Nat.le_of_ble_eq_true rfl, Nat.le_of_ble_eq_true rfl⟩) rfl rfl (Nat.le_of_ble_eq_true rfl) dX4_numberRead_30 rfl ⟨Nat.zero_le _, Nat.zero_le _⟩ (fun hr3 _ => ?_)
      refine V_if_eq (tgt := 73) (q := 36) hC hr3 dX4_numberRead_33 (by decide) rfl (fun c4 => ?_) (fun c4 => ?_)
      · replace hf := (if_pos c4).symm.trans hf
        refine V_lsub [0, 1, 2, 3, 4, 5] rfl ?_
        exact tjX4_numberRead_73 hG hC hr hlk hs h1 h2 h3 h4 h5 hf
      · replace hf := (if_neg c4).symm.trans hf
        refine V_iload (k := 5) (q := 38) hC 5 rfl dX4_numberRead_36 rfl ?_
        refine V_iload_n (k := 3) (q := 39) hC 3 rfl dX4_numberRead_38 rfl ?_
        refine V_isub (q := 40) hC dX4_numberRead_39 rfl ?_
        refine V_iconst (q := 41) hC dX4_numberRead_40 rfl ?_
        refine V_icmp_ge (tgt := 63) (q := 44) hC (Rg_wr _) (Rg_c rfl) dX4_numberRead_41 (by decide) rfl (fun c5 => ?_) (fun c5 => ?_)
        · replace hf := (if_pos c5).symm.trans hf
          refine V_iload (k := 4) (q := 65) hC 4 rfl dX4_numberRead_63 rfl ?_
          refine V_istore (i := 4) (lv' := [(0, rf G 4 0), (1, iv v1), (2, iv v2), (3, iv v3), (4, iv v4), (5, iv v5)]) (q := 67) hC [1, 2, 3, 4, 0, 5] (by decide) rfl dX4_numberRead_65 rfl ?_
          refine V_iinc (i := 5) (lv' := [(0, rf G 4 0), (1, iv v1), (2, iv v2), (3, iv v3), (4, iv v4), (5, iv (wr (v5 + 1)))]) (q := 70) hC 5 rfl [1, 2, 3, 4, 5, 0] (by decide) rfl dX4_numberRead_67 rfl ?_
          refine V_goto (tgt := 14) hC dX4_numberRead_70 (by decide) ?_
          refine V_lsub [0, 1, 2, 3, 4, 5] rfl ?_
          exact ih hs h1 h2 h3 h4 (Rg_wr _) hf
        · replace hf := (if_neg c5).symm.trans hf
          refine V_bipush (q := 46) hC (by decide) dX4_numberRead_44 rfl ?_
          refine V_iload (k := 4) (q := 48) hC 4 rfl dX4_numberRead_46 rfl ?_
          refine V_imul (q := 49) hC dX4_numberRead_48 rfl ?_
          refine V_aload_n (k := 0) (q := 50) hC 0 rfl dX4_numberRead_49 rfl ?_
          refine V_getf (T := TX4) (k := 0) (q := 53) hC uX4_numberRead_4 rfl iD4 rfl (by decide) kX4_numberRead_f9 rfl dX4_numberRead_50 rfl ?_
          refine V_iload (k := 5) (q := 55) hC 5 rfl dX4_numberRead_53 rfl ?_
          obtain ⟨g6, hf⟩ := gd_some hf
          refine V_iald (n := 140) (q := 56) hC iD12 rfl g6 h5 dX4_numberRead_55 rfl ?_
          refine V_iadd (q := 57) hC dX4_numberRead_56 rfl ?_
          refine V_bipush (q := 59) hC (by decide) dX4_numberRead_57 rfl ?_
          refine V_isub (q := 60) hC dX4_numberRead_59 rfl ?_
          refine V_goto (tgt := 65) hC dX4_numberRead_60 (by decide) ?_
          refine V_istore (i := 4) (lv' := [(0, rf G 4 0), (1, iv v1), (2, iv v2), (3, iv v3), (4, iv (wr ((wr ((wr (10 * v4)) + (σ 12 0 v5.toNat))) - 48))), (5, iv v5)]) (q := 67) hC [1, 2, 3, 4, 0, 5] (by decide) rfl dX4_numberRead_65 rfl ?_
          refine V_iinc (i := 5) (lv' := [(0, rf G 4 0), (1, iv v1), (2, iv v2), (3, iv v3), (4, iv (wr ((wr ((wr (10 * v4)) + (σ 12 0 v5.toNat))) - 48))), (5, iv (wr (v5 + 1)))]) (q := 70) hC 5 rfl [1, 2, 3, 4, 5, 0] (by decide) rfl dX4_numberRead_67 rfl ?_
          refine V_goto (tgt := 14) hC dX4_numberRead_70 (by decide) ?_
          refine V_lsub [0, 1, 2, 3, 4, 5] rfl ?_
          exact ih hs h1 h2 h3 (Rg_wr _) (Rg_wr _) hf
set_option maxHeartbeats 4000000 in
set_option maxRecDepth 100000 in
theorem sX4_numberRead (l : Launch) {G : GT} (hG : GI G) {v1 : Int} {v2 : Int} (h1 : Rg v1) (h2 : Rg v2) {σ : Hp} (hs : RgS σ) {r0 : Int × Hp} (hf : fX4_numberRead σ v1 v2 = some r0) : Cti l G yX4_numberRead wsX4_numberRead rmX4_numberRead [rf G 4 0, iv v1, iv v2] σ r0.1 r0.2 := by
  unfold fX4_numberRead at hf
  refine Cti_start (lv := [(0, rf G 4 0), (1, iv v1), (2, iv v2)]) (ret := (some .int)) (by decide +kernel) rfl hG (Nat.le_of_ble_eq_true rfl) rfl (fun p e s m args below meth c hC hr hlk => ?_)
  refine V_aload_n (k := 0) (q := 1) hC 0 rfl dX4_numberRead_0 rfl ?_
  refine V_getf (T := TX4) (k := 4) (q := 4) hC uX4_numberRead_4 rfl iD4 rfl (by decide) kX4_numberRead_f19 rfl dX4_numberRead_1 rfl ?_
  refine V_istore_n (k := 3) (i := 3) (lv' := [(0, rf G 4 0), (1, iv v1), (2, iv v2), (3, iv (σ 4 0 4))]) (q := 5) hC [1, 2, 3, 0] rfl (by decide) rfl dX4_numberRead_4 rfl ?_
  refine V_iconst (q := 6) hC dX4_numberRead_5 rfl ?_
  refine V_istore (i := 4) (lv' := [(0, rf G 4 0), (1, iv v1), (2, iv v2), (3, iv (σ 4 0 4)), (4, iv 0)]) (q := 8) hC [1, 2, 3, 4, 0] (by decide) rfl dX4_numberRead_6 rfl ?_
  refine V_aload_n (k := 0) (q := 9) hC 0 rfl dX4_numberRead_8 rfl ?_
  refine V_getf (T := TX4) (k := 4) (q := 12) hC uX4_numberRead_4 rfl iD4 rfl (by decide) kX4_numberRead_f19 rfl dX4_numberRead_9 rfl ?_
  refine V_istore (i := 5) (lv' := [(0, rf G 4 0), (1, iv v1), (2, iv v2), (3, iv (σ 4 0 4)), (4, iv 0), (5, iv (σ 4 0 4))]) (q := 14) hC [1, 2, 3, 4, 5, 0] (by decide) rfl dX4_numberRead_12 rfl ?_
  refine V_lsub [0, 1, 2, 3, 4, 5] rfl ?_
  exact (tlX4_numberRead_14 hG hC hr hlk FU) hs h1 h2 (hs _ _ _) (Rg_c rfl) (hs _ _ _) hf
/-! X5_begin -/
theorem kX5_begin_f33 : Cond.fieldLink RX5 33 "BarkNames$Wood" "told" "Z" ∈ wsX5_begin := by decide +kernel
theorem uX5_begin_5 : ∀ w ∈ u_ws RX5 TX5 12, w ∈ wsX5_begin := by decide +kernel
theorem kX5_begin_f37 : Cond.fieldLink RX5 37 "BarkNames$Wood" "wide" "I" ∈ wsX5_begin := by decide +kernel
theorem kX5_begin_f41 : Cond.fieldLink RX5 41 "BarkNames$Wood" "year" "I" ∈ wsX5_begin := by decide +kernel
theorem kX5_begin_f44 : Cond.fieldLink RX5 44 "BarkNames$Wood" "treeCount" "I" ∈ wsX5_begin := by decide +kernel
theorem kX5_begin_f47 : Cond.fieldLink RX5 47 "BarkNames$Wood" "cutCount" "I" ∈ wsX5_begin := by decide +kernel
abbrev rmX5_begin : Room := { frames := 0, cells := 0, slots := 0, locals := 0 }
set_option maxHeartbeats 4000000 in
set_option maxRecDepth 100000 in
theorem sX5_begin (l : Launch) {G : GT} (hG : GI G) {j0 : Nat} {v1 : Int} (hj0 : j0 < 28) (h1 : Rg v1) {σ : Hp} (hs : RgS σ) {r0 : Int × Hp} (hf : fX5_begin σ j0 v1 = some r0) : Ctv l G yX5_begin wsX5_begin rmX5_begin [rf G 5 j0, iv v1] σ r0.2 := by
  unfold fX5_begin at hf
  refine Ctv_start (lv := [(0, rf G 5 j0), (1, iv v1)]) (ret := none) (by decide +kernel) rfl hG (Nat.le_of_ble_eq_true rfl) rfl (fun p e s m args below meth c hC hr hlk => ?_)
  refine V_aload_n (k := 0) (q := 1) hC 0 rfl dX5_begin_0 rfl ?_
  refine V_iconst (q := 2) hC dX5_begin_1 rfl ?_
  obtain ⟨σ1, e2, hf⟩ := sq_ex hf
  have hs3 : RgS σ1 := by rw [e2]; exact RgS_hup hs (Rg_c rfl)
  refine V_putf (T := TX5) (k := 7) (ty := .boolean) (q := 5) hC uX5_begin_5 rfl tyX5 tyX5_ok nmX5 (iM5 hj0) rfl (pf_5_7 _ _ _ _ rfl) (by decide) kX5_begin_f33 rfl (by decide +kernel) (nz_b (Or.inr rfl)) (fz_b (Or.inr rfl)) (Nat.le_of_ble_eq_true rfl) e2 dX5_begin_2 rfl ?_
  refine V_aload_n (k := 0) (q := 6) hC 0 rfl dX5_begin_5 rfl ?_
  refine V_iload_n (k := 1) (q := 7) hC 1 rfl dX5_begin_6 rfl ?_
  obtain ⟨σ4, e5, hf⟩ := sq_ex hf
  have hs6 : RgS σ4 := by rw [e5]; exact RgS_hup hs3 h1
  refine V_putf (T := TX5) (k := 8) (ty := .int) (q := 10) hC uX5_begin_5 rfl tyX5 tyX5_ok nmX5 (iM5 hj0) rfl (pf_5_8 _ _ _ _ rfl) (by decide) kX5_begin_f37 rfl (by decide +kernel) rfl rfl (Nat.le_of_ble_eq_true rfl) e5 dX5_begin_7 rfl ?_
  refine V_aload_n (k := 0) (q := 11) hC 0 rfl dX5_begin_10 rfl ?_
  refine V_iconst (q := 12) hC dX5_begin_11 rfl ?_
  obtain ⟨σ7, e8, hf⟩ := sq_ex hf
  have hs9 : RgS σ7 := by rw [e8]; exact RgS_hup hs6 (Rg_c rfl)
  refine V_putf (T := TX5) (k := 9) (ty := .int) (q := 15) hC uX5_begin_5 rfl tyX5 tyX5_ok nmX5 (iM5 hj0) rfl (pf_5_9 _ _ _ _ rfl) (by decide) kX5_begin_f41 rfl (by decide +kernel) rfl rfl (Nat.le_of_ble_eq_true rfl) e8 dX5_begin_12 rfl ?_
  refine V_aload_n (k := 0) (q := 16) hC 0 rfl dX5_begin_15 rfl ?_
  refine V_iconst (q := 17) hC dX5_begin_16 rfl ?_
  obtain ⟨σ10, e11, hf⟩ := sq_ex hf
  have hs12 : RgS σ10 := by rw [e11]; exact RgS_hup hs9 (Rg_c rfl)
  refine V_putf (T := TX5) (k := 10) (ty := .int) (q := 20) hC uX5_begin_5 rfl tyX5 tyX5_ok nmX5 (iM5 hj0) rfl (pf_5_10 _ _ _ _ rfl) (by decide) kX5_begin_f44 rfl (by decide +kernel) rfl rfl (Nat.le_of_ble_eq_true rfl) e11 dX5_begin_17 rfl ?_
  refine V_aload_n (k := 0) (q := 21) hC 0 rfl dX5_begin_20 rfl ?_
  refine V_iconst (q := 22) hC dX5_begin_21 rfl ?_
  obtain ⟨σ13, e14, hf⟩ := sq_ex hf
  have hs15 : RgS σ13 := by rw [e14]; exact RgS_hup hs12 (Rg_c rfl)
  refine V_putf (T := TX5) (k := 11) (ty := .int) (q := 25) hC uX5_begin_5 rfl tyX5 tyX5_ok nmX5 (iM5 hj0) rfl (pf_5_11 _ _ _ _ rfl) (by decide) kX5_begin_f47 rfl (by decide +kernel) rfl rfl (Nat.le_of_ble_eq_true rfl) e14 dX5_begin_22 rfl ?_
  exact V_vret hC hr hlk (re_2 hf) hs15 dX5_begin_25
/-! X4_readsLaw -/
abbrev rmX4_readsLaw : Room := { frames := 2, cells := 0, slots := 0, locals := 47 }
set_option maxHeartbeats 4000000 in
set_option maxRecDepth 100000 in
theorem sX4_readsLaw (l : Launch) {G : GT} (hG : GI G) {j1 : Nat} (hj1 : j1 < 28) {σ : Hp} (hs : RgS σ) {r0 : Int × Hp} (hf : fX4_readsLaw σ j1 = some r0) : Cti l G yX4_readsLaw wsX4_readsLaw rmX4_readsLaw [rf G 4 0, rf G 5 j1] σ r0.1 r0.2 := by
  unfold fX4_readsLaw at hf
  refine Cti_start (lv := [(0, rf G 4 0), (1, rf G 5 j1)]) (ret := (some .boolean)) (by decide +kernel) rfl hG (Nat.le_of_ble_eq_true rfl) rfl (fun p e s m args below meth c hC hr hlk => ?_)
  refine V_aload_n (k := 0) (q := 1) hC 0 rfl dX4_readsLaw_0 rfl ?_
  refine V_bipush (q := 3) hC (by decide) dX4_readsLaw_1 rfl ?_
  obtain ⟨r1, σ2, hc3, hf⟩ := cl_some hf
  refine V_cvi (st := []) (q := 6) (x0 := r1) (σ0 := σ2) hC (sX4_reads l hG (Rg_c rfl) hs hc3) (cwV 1 hC.2.2.2.2.1 gX4_readsLaw_X4_reads rfl rfl rfl (by decide +kernel) ⟨Nat.le_of_ble_eq_true rfl, Nat.le_of_ble_eq_true rfl⟩) ⟨_, rfl, rfl⟩ iD4 (fun _ => ⟨_, rfl⟩) rfl rfl (Nat.le_of_ble_eq_true rfl) dX4_readsLaw_3 rfl ⟨Nat.zero_le _, Nat.zero_le _⟩ (fun hr4 hs5 => ?_)
  refine V_if_ne (tgt := 11) (q := 9) hC hr4 dX4_readsLaw_6 (by decide) rfl (fun c6 => ?_) (fun c6 => ?_)
  · replace hf := (if_neg c6).symm.trans hf
    refine V_aload_n (k := 0) (q := 12) hC 0 rfl dX4_readsLaw_11 rfl ?_
    refine V_iconst (q := 13) hC dX4_readsLaw_12 rfl ?_
    refine V_bipush (q := 15) hC (by decide) dX4_readsLaw_13 rfl ?_
    obtain ⟨r7, σ8, hc9, hf⟩ := cl_some hf
    refine V_cvi (st := []) (q := 18) (x0 := r7) (σ0 := σ8) hC (sX4_numberRead l hG (Rg_c rfl) (Rg_c rfl) hs5 hc9) (cwV 2 hC.2.2.2.2.1 gX4_readsLaw_X4_numberRead rfl rfl rfl (by decide +kernel) ⟨Nat.le_of_ble_eq_true rfl, Nat.le_of_ble_eq_true rfl⟩) ⟨_, rfl, rfl⟩ iD4 (fun _ => ⟨_, rfl⟩) rfl rfl (Nat.le_of_ble_eq_true rfl) dX4_readsLaw_15 rfl ⟨Nat.zero_le _, Nat.zero_le _⟩ (fun hr10 hs11 => ?_)
    refine V_istore_n (k := 2) (i := 2) (lv' := [(0, rf G 4 0), (1, rf G 5 j1), (2, iv r7)]) (q := 19) hC [1, 2, 0] rfl (by decide) rfl dX4_readsLaw_18 rfl ?_
    refine V_iload_n (k := 2) (q := 20) hC 2 rfl dX4_readsLaw_19 rfl ?_
    refine V_if_lt (tgt := 32) (q := 23) hC hr10 dX4_readsLaw_20 (by decide) rfl (fun c12 => ?_) (fun c12 => ?_)
    · replace hf := (if_pos c12).symm.trans hf
      refine V_iconst (q := 33) hC dX4_readsLaw_32 rfl ?_
      exact V_zret hC hr hlk (Or.inl rfl) (re_1 hf) (re_2 hf) hs11 dX4_readsLaw_33
    · replace hf := (if_neg c12).symm.trans hf
      refine V_aload_n (k := 0) (q := 24) hC 0 rfl dX4_readsLaw_23 rfl ?_
      refine V_bipush (q := 26) hC (by decide) dX4_readsLaw_24 rfl ?_
      obtain ⟨r13, σ14, hc15, hf⟩ := cl_some hf
      refine V_cvi (st := []) (q := 29) (x0 := r13) (σ0 := σ14) hC (sX4_reads l hG (Rg_c rfl) hs11 hc15) (cwV 1 hC.2.2.2.2.1 gX4_readsLaw_X4_reads rfl rfl rfl (by decide +kernel) ⟨Nat.le_of_ble_eq_true rfl, Nat.le_of_ble_eq_true rfl⟩) ⟨_, rfl, rfl⟩ iD4 (fun _ => ⟨_, rfl⟩) rfl rfl (Nat.le_of_ble_eq_true rfl) dX4_readsLaw_26 rfl ⟨Nat.zero_le _, Nat.zero_le _⟩ (fun hr16 hs17 => ?_)
      refine V_if_ne (tgt := 34) (q := 32) hC hr16 dX4_readsLaw_29 (by decide) rfl (fun c18 => ?_) (fun c18 => ?_)
      · replace hf := (if_neg c18).symm.trans hf
        refine V_aload_n (k := 1) (q := 35) hC 1 rfl dX4_readsLaw_34 rfl ?_
        refine V_iload_n (k := 2) (q := 36) hC 2 rfl dX4_readsLaw_35 rfl ?_
        obtain ⟨r19, σ20, hc21, hf⟩ := cl_some hf
        refine V_cvv (st := []) (q := 39) (σ0 := σ20) hC (sX5_begin l hG hj1 hr10 hs17 hc21) (cwV 1 hC.2.2.2.2.1 gX4_readsLaw_X5_begin rfl rfl rfl (by decide +kernel) ⟨Nat.le_of_ble_eq_true rfl, Nat.le_of_ble_eq_true rfl⟩) ⟨_, rfl, rfl⟩ (iM5 hj1) (fun _ => ⟨_, rfl⟩) rfl rfl (Nat.le_of_ble_eq_true rfl) dX4_readsLaw_36 rfl ⟨Nat.zero_le _, Nat.zero_le _⟩ (fun hs23 => ?_)
        refine V_iconst (q := 40) hC dX4_readsLaw_39 rfl ?_
        exact V_zret hC hr hlk (Or.inr rfl) (re_1 hf) (re_2 hf) hs23 dX4_readsLaw_40
      · replace hf := (if_pos c18).symm.trans hf
        refine V_iconst (q := 33) hC dX4_readsLaw_32 rfl ?_
        exact V_zret hC hr hlk (Or.inl rfl) (re_1 hf) (re_2 hf) hs17 dX4_readsLaw_33
  · replace hf := (if_pos c6).symm.trans hf
    refine V_iconst (q := 10) hC dX4_readsLaw_9 rfl ?_
    exact V_zret hC hr hlk (Or.inl rfl) (re_1 hf) (re_2 hf) hs5 dX4_readsLaw_10
/-! X4_kindHere -/
abbrev rmX4_kindHere : Room := { frames := 1, cells := 0, slots := 0, locals := 20 }
set_option maxHeartbeats 4000000 in
set_option maxRecDepth 100000 in
theorem sX4_kindHere (l : Launch) {G : GT} (hG : GI G) {σ : Hp} (hs : RgS σ) {r0 : Int × Hp} (hf : fX4_kindHere σ = some r0) : Cti l G yX4_kindHere wsX4_kindHere rmX4_kindHere [rf G 4 0] σ r0.1 r0.2 := by
  unfold fX4_kindHere at hf
  refine Cti_start (lv := [(0, rf G 4 0)]) (ret := (some .int)) (by decide +kernel) rfl hG (Nat.le_of_ble_eq_true rfl) rfl (fun p e s m args below meth c hC hr hlk => ?_)
  refine V_aload_n (k := 0) (q := 1) hC 0 rfl dX4_kindHere_0 rfl ?_
  obtain ⟨r1, σ2, hc3, hf⟩ := cl_some hf
  refine V_cvi (st := []) (q := 4) (x0 := r1) (σ0 := σ2) hC (sX4_here l hG  hs hc3) (cwV 0 hC.2.2.2.2.1 gX4_kindHere_X4_here rfl rfl rfl (by decide +kernel) ⟨Nat.le_of_ble_eq_true rfl, Nat.le_of_ble_eq_true rfl⟩) ⟨_, rfl, rfl⟩ iD4 (fun _ => ⟨_, rfl⟩) rfl rfl (Nat.le_of_ble_eq_true rfl) dX4_kindHere_1 rfl ⟨Nat.zero_le _, Nat.zero_le _⟩ (fun hr4 hs5 => ?_)
  by_cases c6 : r1 = 98
  · replace hf := (if_pos c6).symm.trans hf
    refine V_lookup (tgt := 56) (off := 52) hC hr4 dX4_kindHere_4 (by decide) (by rw [c6]; rfl) (by decide) ?_
    refine V_iconst (q := 57) hC dX4_kindHere_56 rfl ?_
    exact V_iret hC hr hlk (re_1 hf) (re_2 hf) (Rg_c rfl) hs5 dX4_kindHere_57
  · replace hf := (if_neg c6).symm.trans hf
    by_cases c7 : r1 = 100
    · replace hf := (if_pos c7).symm.trans hf
      refine V_lookup (tgt := 64) (off := 60) hC hr4 dX4_kindHere_4 (by decide) (by rw [c7]; rfl) (by decide) ?_
      refine V_iconst (q := 65) hC dX4_kindHere_64 rfl ?_
      exact V_iret hC hr hlk (re_1 hf) (re_2 hf) (Rg_c rfl) hs5 dX4_kindHere_65
    · replace hf := (if_neg c7).symm.trans hf
      by_cases c8 : r1 = 111
      · replace hf := (if_pos c8).symm.trans hf
        refine V_lookup (tgt := 58) (off := 54) hC hr4 dX4_kindHere_4 (by decide) (by rw [c8]; rfl) (by decide) ?_
        refine V_iconst (q := 59) hC dX4_kindHere_58 rfl ?_
        exact V_iret hC hr hlk (re_1 hf) (re_2 hf) (Rg_c rfl) hs5 dX4_kindHere_59
      · replace hf := (if_neg c8).symm.trans hf
        by_cases c9 : r1 = 112
        · replace hf := (if_pos c9).symm.trans hf
          refine V_lookup (tgt := 62) (off := 58) hC hr4 dX4_kindHere_4 (by decide) (by rw [c9]; rfl) (by decide) ?_
          refine V_iconst (q := 63) hC dX4_kindHere_62 rfl ?_
          exact V_iret hC hr hlk (re_1 hf) (re_2 hf) (Rg_c rfl) hs5 dX4_kindHere_63
        · replace hf := (if_neg c9).symm.trans hf
          by_cases c10 : r1 = 121
          · replace hf := (if_pos c10).symm.trans hf
            refine V_lookup (tgt := 60) (off := 56) hC hr4 dX4_kindHere_4 (by decide) (by rw [c10]; rfl) (by decide) ?_
            refine V_iconst (q := 61) hC dX4_kindHere_60 rfl ?_
            exact V_iret hC hr hlk (re_1 hf) (re_2 hf) (Rg_c rfl) hs5 dX4_kindHere_61
          · replace hf := (if_neg c10).symm.trans hf
            refine V_lookup (tgt := 66) (off := 62) hC hr4 dX4_kindHere_4 (by decide) (by rw [lk_n c6, lk_n c7, lk_n c8, lk_n c9, lk_n c10]; rfl) (by decide) ?_
            refine V_iconst (q := 67) hC dX4_kindHere_66 rfl ?_
            exact V_iret hC hr hlk (re_1 hf) (re_2 hf) (Rg_c rfl) hs5 dX4_kindHere_67
/-! X5_addTree -/
theorem kX5_addTree_f44 : Cond.fieldLink RX5 44 "BarkNames$Wood" "treeCount" "I" ∈ wsX5_addTree := by decide +kernel
theorem uX5_addTree_5 : ∀ w ∈ u_ws RX5 TX5 12, w ∈ wsX5_addTree := by decide +kernel
theorem kX5_addTree_f9 : Cond.fieldLink RX5 9 "BarkNames$Wood" "kindOf" "[I" ∈ wsX5_addTree := by decide +kernel
theorem kX5_addTree_f15 : Cond.fieldLink RX5 15 "BarkNames$Wood" "girthOf" "[I" ∈ wsX5_addTree := by decide +kernel
theorem kX5_addTree_f18 : Cond.fieldLink RX5 18 "BarkNames$Wood" "sunOf" "[I" ∈ wsX5_addTree := by decide +kernel
abbrev rmX5_addTree : Room := { frames := 0, cells := 0, slots := 0, locals := 0 }
set_option maxHeartbeats 4000000 in
set_option maxRecDepth 100000 in
theorem sX5_addTree (l : Launch) {G : GT} (hG : GI G) {j0 : Nat} {v1 : Int} {v2 : Int} {v3 : Int} (hj0 : j0 < 28) (h1 : Rg v1) (h2 : Rg v2) (h3 : Rg v3) {σ : Hp} (hs : RgS σ) {r0 : Int × Hp} (hf : fX5_addTree σ j0 v1 v2 v3 = some r0) : Ctv l G yX5_addTree wsX5_addTree rmX5_addTree [rf G 5 j0, iv v1, iv v2, iv v3] σ r0.2 := by
  unfold fX5_addTree at hf
  refine Ctv_start (lv := [(0, rf G 5 j0), (1, iv v1), (2, iv v2), (3, iv v3)]) (ret := none) (by decide +kernel) rfl hG (Nat.le_of_ble_eq_true rfl) rfl (fun p e s m args below meth c hC hr hlk => ?_)
  refine V_aload_n (k := 0) (q := 1) hC 0 rfl dX5_addTree_0 rfl ?_
  refine V_getf (T := TX5) (k := 10) (q := 4) hC uX5_addTree_5 rfl (iM5 hj0) rfl (by decide) kX5_addTree_f44 rfl dX5_addTree_1 rfl ?_
  refine V_iconst (q := 5) hC dX5_addTree_4 rfl ?_
  refine V_icmp_ge (tgt := 48) (q := 8) hC (hs _ _ _) (Rg_c rfl) dX5_addTree_5 (by decide) rfl (fun c1 => ?_) (fun c1 => ?_)
  · replace hf := (if_pos c1).symm.trans hf
    exact V_vret hC hr hlk (re_2 hf) hs dX5_addTree_48
  · replace hf := (if_neg c1).symm.trans hf
    refine V_aload_n (k := 0) (q := 9) hC 0 rfl dX5_addTree_8 rfl ?_
    refine V_getf (T := TX5) (k := 0) (q := 12) hC uX5_addTree_5 rfl (iM5 hj0) rfl (by decide) kX5_addTree_f9 rfl dX5_addTree_9 rfl ?_
    refine V_aload_n (k := 0) (q := 13) hC 0 rfl dX5_addTree_12 rfl ?_
    refine V_getf (T := TX5) (k := 10) (q := 16) hC uX5_addTree_5 rfl (iM5 hj0) rfl (by decide) kX5_addTree_f44 rfl dX5_addTree_13 rfl ?_
    refine V_iload_n (k := 1) (q := 17) hC 1 rfl dX5_addTree_16 rfl ?_
    obtain ⟨g2, hf⟩ := gd_some hf
    obtain ⟨σ3, e4, hf⟩ := sq_ex hf
    have hs5 : RgS σ3 := by rw [e4]; exact RgS_hup hs h1
    refine V_iast (n := 4) (q := 18) hC (iM13 hj0) rfl g2 (hs _ _ _) e4 dX5_addTree_17 rfl ?_
    refine V_aload_n (k := 0) (q := 19) hC 0 rfl dX5_addTree_18 rfl ?_
    refine V_getf (T := TX5) (k := 1) (q := 22) hC uX5_addTree_5 rfl (iM5 hj0) rfl (by decide) kX5_addTree_f15 rfl dX5_addTree_19 rfl ?_
    refine V_aload_n (k := 0) (q := 23) hC 0 rfl dX5_addTree_22 rfl ?_
    refine V_getf (T := TX5) (k := 10) (q := 26) hC uX5_addTree_5 rfl (iM5 hj0) rfl (by decide) kX5_addTree_f44 rfl dX5_addTree_23 rfl ?_
    refine V_iload_n (k := 2) (q := 27) hC 2 rfl dX5_addTree_26 rfl ?_
    obtain ⟨g6, hf⟩ := gd_some hf
    obtain ⟨σ7, e8, hf⟩ := sq_ex hf
    have hs9 : RgS σ7 := by rw [e8]; exact RgS_hup hs5 h2
    refine V_iast (n := 4) (q := 28) hC (iM14 hj0) rfl g6 (hs5 _ _ _) e8 dX5_addTree_27 rfl ?_
    refine V_aload_n (k := 0) (q := 29) hC 0 rfl dX5_addTree_28 rfl ?_
    refine V_getf (T := TX5) (k := 2) (q := 32) hC uX5_addTree_5 rfl (iM5 hj0) rfl (by decide) kX5_addTree_f18 rfl dX5_addTree_29 rfl ?_
    refine V_aload_n (k := 0) (q := 33) hC 0 rfl dX5_addTree_32 rfl ?_
    refine V_getf (T := TX5) (k := 10) (q := 36) hC uX5_addTree_5 rfl (iM5 hj0) rfl (by decide) kX5_addTree_f44 rfl dX5_addTree_33 rfl ?_
    refine V_iload_n (k := 3) (q := 37) hC 3 rfl dX5_addTree_36 rfl ?_
    obtain ⟨g10, hf⟩ := gd_some hf
    obtain ⟨σ11, e12, hf⟩ := sq_ex hf
    have hs13 : RgS σ11 := by rw [e12]; exact RgS_hup hs9 h3
    refine V_iast (n := 4) (q := 38) hC (iM15 hj0) rfl g10 (hs9 _ _ _) e12 dX5_addTree_37 rfl ?_
    refine V_aload_n (k := 0) (q := 39) hC 0 rfl dX5_addTree_38 rfl ?_
    refine V_dup (q := 40) hC rfl dX5_addTree_39 rfl ?_
    refine V_getf (T := TX5) (k := 10) (q := 43) hC uX5_addTree_5 rfl (iM5 hj0) rfl (by decide) kX5_addTree_f44 rfl dX5_addTree_40 rfl ?_
    refine V_iconst (q := 44) hC dX5_addTree_43 rfl ?_
    refine V_iadd (q := 45) hC dX5_addTree_44 rfl ?_
    obtain ⟨σ14, e15, hf⟩ := sq_ex hf
    have hs16 : RgS σ14 := by rw [e15]; exact RgS_hup hs13 (Rg_wr _)
    refine V_putf (T := TX5) (k := 10) (ty := .int) (q := 48) hC uX5_addTree_5 rfl tyX5 tyX5_ok nmX5 (iM5 hj0) rfl (pf_5_10 _ _ _ _ rfl) (by decide) kX5_addTree_f44 rfl (by decide +kernel) rfl rfl (Nat.le_of_ble_eq_true rfl) e15 dX5_addTree_45 rfl ?_
    exact V_vret hC hr hlk (re_2 hf) hs16 dX5_addTree_48
/-! X4_readsTree -/
theorem kX4_readsTree_f57 : Cond.fieldLink RX4 57 "BarkNames$Wood" "treeCount" "I" ∈ wsX4_readsTree := by decide +kernel
theorem uX4_readsTree_5 : ∀ w ∈ u_ws RX5 TX5 12, w ∈ wsX4_readsTree := by decide +kernel
theorem kX4_readsTree_f19 : Cond.fieldLink RX4 19 "BarkNames$Tape" "at" "I" ∈ wsX4_readsTree := by decide +kernel
theorem uX4_readsTree_4 : ∀ w ∈ u_ws RX4 TX4 5, w ∈ wsX4_readsTree := by decide +kernel
abbrev rmX4_readsTree : Room := { frames := 2, cells := 0, slots := 0, locals := 47 }
set_option maxHeartbeats 4000000 in
set_option maxRecDepth 100000 in
theorem sX4_readsTree (l : Launch) {G : GT} (hG : GI G) {j1 : Nat} (hj1 : j1 < 28) {σ : Hp} (hs : RgS σ) {r0 : Int × Hp} (hf : fX4_readsTree σ j1 = some r0) : Cti l G yX4_readsTree wsX4_readsTree rmX4_readsTree [rf G 4 0, rf G 5 j1] σ r0.1 r0.2 := by
  unfold fX4_readsTree at hf
  refine Cti_start (lv := [(0, rf G 4 0), (1, rf G 5 j1)]) (ret := (some .boolean)) (by decide +kernel) rfl hG (Nat.le_of_ble_eq_true rfl) rfl (fun p e s m args below meth c hC hr hlk => ?_)
  refine V_aload_n (k := 1) (q := 1) hC 1 rfl dX4_readsTree_0 rfl ?_
  refine V_getf (T := TX5) (k := 10) (q := 4) hC uX4_readsTree_5 rfl (iM5 hj1) rfl (by decide) kX4_readsTree_f57 rfl dX4_readsTree_1 rfl ?_
  refine V_iconst (q := 5) hC dX4_readsTree_4 rfl ?_
  refine V_icmp_lt (tgt := 18) (q := 8) hC (hs _ _ _) (Rg_c rfl) dX4_readsTree_5 (by decide) rfl (fun c1 => ?_) (fun c1 => ?_)
  · replace hf := (if_pos c1).symm.trans hf
    refine V_aload_n (k := 0) (q := 19) hC 0 rfl dX4_readsTree_18 rfl ?_
    obtain ⟨r2, σ3, hc4, hf⟩ := cl_some hf
    refine V_cvi (st := []) (q := 22) (x0 := r2) (σ0 := σ3) hC (sX4_kindHere l hG  hs hc4) (cwV 0 hC.2.2.2.2.1 gX4_readsTree_X4_kindHere rfl rfl rfl (by decide +kernel) ⟨Nat.le_of_ble_eq_true rfl, Nat.le_of_ble_eq_true rfl⟩) ⟨_, rfl, rfl⟩ iD4 (fun _ => ⟨_, rfl⟩) rfl rfl (Nat.le_of_ble_eq_true rfl) dX4_readsTree_19 rfl ⟨Nat.zero_le _, Nat.zero_le _⟩ (fun hr5 hs6 => ?_)
    refine V_istore_n (k := 2) (i := 2) (lv' := [(0, rf G 4 0), (1, rf G 5 j1), (2, iv r2)]) (q := 23) hC [1, 2, 0] rfl (by decide) rfl dX4_readsTree_22 rfl ?_
    refine V_aload_n (k := 0) (q := 24) hC 0 rfl dX4_readsTree_23 rfl ?_
    refine V_dup (q := 25) hC rfl dX4_readsTree_24 rfl ?_
    refine V_getf (T := TX4) (k := 4) (q := 28) hC uX4_readsTree_4 rfl iD4 rfl (by decide) kX4_readsTree_f19 rfl dX4_readsTree_25 rfl ?_
    refine V_iconst (q := 29) hC dX4_readsTree_28 rfl ?_
    refine V_iadd (q := 30) hC dX4_readsTree_29 rfl ?_
    obtain ⟨σ7, e8, hf⟩ := sq_ex hf
    have hs9 : RgS σ7 := by rw [e8]; exact RgS_hup hs6 (Rg_wr _)
    refine V_putf (T := TX4) (k := 4) (ty := .int) (q := 33) hC uX4_readsTree_4 rfl tyX4 tyX4_ok nmX4 iD4 rfl (pf_4_4 _ _ _ _ rfl) (by decide) kX4_readsTree_f19 rfl (by decide +kernel) rfl rfl (Nat.le_of_ble_eq_true rfl) e8 dX4_readsTree_30 rfl ?_
    refine V_aload_n (k := 0) (q := 34) hC 0 rfl dX4_readsTree_33 rfl ?_
    refine V_bipush (q := 36) hC (by decide) dX4_readsTree_34 rfl ?_
    refine V_bipush (q := 38) hC (by decide) dX4_readsTree_36 rfl ?_
    obtain ⟨r10, σ11, hc12, hf⟩ := cl_some hf
    refine V_cvi (st := []) (q := 41) (x0 := r10) (σ0 := σ11) hC (sX4_numberRead l hG (Rg_c rfl) (Rg_c rfl) hs9 hc12) (cwV 2 hC.2.2.2.2.1 gX4_readsTree_X4_numberRead rfl rfl rfl (by decide +kernel) ⟨Nat.le_of_ble_eq_true rfl, Nat.le_of_ble_eq_true rfl⟩) ⟨_, rfl, rfl⟩ iD4 (fun _ => ⟨_, rfl⟩) rfl rfl (Nat.le_of_ble_eq_true rfl) dX4_readsTree_38 rfl ⟨Nat.zero_le _, Nat.zero_le _⟩ (fun hr13 hs14 => ?_)
    refine V_istore_n (k := 3) (i := 3) (lv' := [(0, rf G 4 0), (1, rf G 5 j1), (2, iv r2), (3, iv r10)]) (q := 42) hC [1, 2, 3, 0] rfl (by decide) rfl dX4_readsTree_41 rfl ?_
    refine V_iload_n (k := 3) (q := 43) hC 3 rfl dX4_readsTree_42 rfl ?_
    refine V_if_lt (tgt := 55) (q := 46) hC hr13 dX4_readsTree_43 (by decide) rfl (fun c15 => ?_) (fun c15 => ?_)
    · replace hf := (if_pos c15).symm.trans hf
      refine V_iconst (q := 56) hC dX4_readsTree_55 rfl ?_
      exact V_zret hC hr hlk (Or.inl rfl) (re_1 hf) (re_2 hf) hs14 dX4_readsTree_56
    · replace hf := (if_neg c15).symm.trans hf
      refine V_aload_n (k := 0) (q := 47) hC 0 rfl dX4_readsTree_46 rfl ?_
      refine V_bipush (q := 49) hC (by decide) dX4_readsTree_47 rfl ?_
      obtain ⟨r16, σ17, hc18, hf⟩ := cl_some hf
      refine V_cvi (st := []) (q := 52) (x0 := r16) (σ0 := σ17) hC (sX4_reads l hG (Rg_c rfl) hs14 hc18) (cwV 1 hC.2.2.2.2.1 gX4_readsTree_X4_reads rfl rfl rfl (by decide +kernel) ⟨Nat.le_of_ble_eq_true rfl, Nat.le_of_ble_eq_true rfl⟩) ⟨_, rfl, rfl⟩ iD4 (fun _ => ⟨_, rfl⟩) rfl rfl (Nat.le_of_ble_eq_true rfl) dX4_readsTree_49 rfl ⟨Nat.zero_le _, Nat.zero_le _⟩ (fun hr19 hs20 => ?_)
      refine V_if_ne (tgt := 57) (q := 55) hC hr19 dX4_readsTree_52 (by decide) rfl (fun c21 => ?_) (fun c21 => ?_)
      · replace hf := (if_neg c21).symm.trans hf
        refine V_aload_n (k := 0) (q := 58) hC 0 rfl dX4_readsTree_57 rfl ?_
        refine V_iconst (q := 59) hC dX4_readsTree_58 rfl ?_
        refine V_bipush (q := 61) hC (by decide) dX4_readsTree_59 rfl ?_
        obtain ⟨r22, σ23, hc24, hf⟩ := cl_some hf
        refine V_cvi (st := []) (q := 64) (x0 := r22) (σ0 := σ23) hC (sX4_numberRead l hG (Rg_c rfl) (Rg_c rfl) hs20 hc24) (cwV 2 hC.2.2.2.2.1 gX4_readsTree_X4_numberRead rfl rfl rfl (by decide +kernel) ⟨Nat.le_of_ble_eq_true rfl, Nat.le_of_ble_eq_true rfl⟩) ⟨_, rfl, rfl⟩ iD4 (fun _ => ⟨_, rfl⟩) rfl rfl (Nat.le_of_ble_eq_true rfl) dX4_readsTree_61 rfl ⟨Nat.zero_le _, Nat.zero_le _⟩ (fun hr25 hs26 => ?_)
        refine V_istore (i := 4) (lv' := [(0, rf G 4 0), (1, rf G 5 j1), (2, iv r2), (3, iv r10), (4, iv r22)]) (q := 66) hC [1, 2, 3, 4, 0] (by decide) rfl dX4_readsTree_64 rfl ?_
        refine V_iload (k := 4) (q := 68) hC 4 rfl dX4_readsTree_66 rfl ?_
        refine V_if_lt (tgt := 80) (q := 71) hC hr25 dX4_readsTree_68 (by decide) rfl (fun c27 => ?_) (fun c27 => ?_)
        · replace hf := (if_pos c27).symm.trans hf
          refine V_iconst (q := 81) hC dX4_readsTree_80 rfl ?_
          exact V_zret hC hr hlk (Or.inl rfl) (re_1 hf) (re_2 hf) hs26 dX4_readsTree_81
        · replace hf := (if_neg c27).symm.trans hf
          refine V_aload_n (k := 0) (q := 72) hC 0 rfl dX4_readsTree_71 rfl ?_
          refine V_bipush (q := 74) hC (by decide) dX4_readsTree_72 rfl ?_
          obtain ⟨r28, σ29, hc30, hf⟩ := cl_some hf
          refine V_cvi (st := []) (q := 77) (x0 := r28) (σ0 := σ29) hC (sX4_reads l hG (Rg_c rfl) hs26 hc30) (cwV 1 hC.2.2.2.2.1 gX4_readsTree_X4_reads rfl rfl rfl (by decide +kernel) ⟨Nat.le_of_ble_eq_true rfl, Nat.le_of_ble_eq_true rfl⟩) ⟨_, rfl, rfl⟩ iD4 (fun _ => ⟨_, rfl⟩) rfl rfl (Nat.le_of_ble_eq_true rfl) dX4_readsTree_74 rfl ⟨Nat.zero_le _, Nat.zero_le _⟩ (fun hr31 hs32 => ?_)
          refine V_if_ne (tgt := 82) (q := 80) hC hr31 dX4_readsTree_77 (by decide) rfl (fun c33 => ?_) (fun c33 => ?_)
          · replace hf := (if_neg c33).symm.trans hf
            refine V_aload_n (k := 1) (q := 83) hC 1 rfl dX4_readsTree_82 rfl ?_
            refine V_iload_n (k := 2) (q := 84) hC 2 rfl dX4_readsTree_83 rfl ?_
            refine V_iload_n (k := 3) (q := 85) hC 3 rfl dX4_readsTree_84 rfl ?_
            refine V_iload (k := 4) (q := 87) hC 4 rfl dX4_readsTree_85 rfl ?_
            obtain ⟨r34, σ35, hc36, hf⟩ := cl_some hf
            refine V_cvv (st := []) (q := 90) (σ0 := σ35) hC (sX5_addTree l hG hj1 hr5 hr13 hr25 hs32 hc36) (cwV 3 hC.2.2.2.2.1 gX4_readsTree_X5_addTree rfl rfl rfl (by decide +kernel) ⟨Nat.le_of_ble_eq_true rfl, Nat.le_of_ble_eq_true rfl⟩) ⟨_, rfl, rfl⟩ (iM5 hj1) (fun _ => ⟨_, rfl⟩) rfl rfl (Nat.le_of_ble_eq_true rfl) dX4_readsTree_87 rfl ⟨Nat.zero_le _, Nat.zero_le _⟩ (fun hs38 => ?_)
            refine V_iconst (q := 91) hC dX4_readsTree_90 rfl ?_
            exact V_zret hC hr hlk (Or.inr rfl) (re_1 hf) (re_2 hf) hs38 dX4_readsTree_91
          · replace hf := (if_pos c33).symm.trans hf
            refine V_iconst (q := 81) hC dX4_readsTree_80 rfl ?_
            exact V_zret hC hr hlk (Or.inl rfl) (re_1 hf) (re_2 hf) hs32 dX4_readsTree_81
      · replace hf := (if_pos c21).symm.trans hf
        refine V_iconst (q := 56) hC dX4_readsTree_55 rfl ?_
        exact V_zret hC hr hlk (Or.inl rfl) (re_1 hf) (re_2 hf) hs20 dX4_readsTree_56
  · replace hf := (if_neg c1).symm.trans hf
    refine V_aload_n (k := 0) (q := 9) hC 0 rfl dX4_readsTree_8 rfl ?_
    refine V_iconst (q := 10) hC dX4_readsTree_9 rfl ?_
    refine V_aload_n (k := 0) (q := 11) hC 0 rfl dX4_readsTree_10 rfl ?_
    refine V_getf (T := TX4) (k := 4) (q := 14) hC uX4_readsTree_4 rfl iD4 rfl (by decide) kX4_readsTree_f19 rfl dX4_readsTree_11 rfl ?_
    obtain ⟨r39, σ40, hc41, hf⟩ := cl_some hf
    refine V_cvi (st := []) (q := 17) (x0 := r39) (σ0 := σ40) hC (sX4_fails l hG (Rg_c rfl) (hs _ _ _) hs hc41) (cwV 2 hC.2.2.2.2.1 gX4_readsTree_X4_fails rfl rfl rfl (by decide +kernel) ⟨Nat.le_of_ble_eq_true rfl, Nat.le_of_ble_eq_true rfl⟩) ⟨_, rfl, rfl⟩ iD4 (fun _ => ⟨_, rfl⟩) rfl rfl (Nat.le_of_ble_eq_true rfl) dX4_readsTree_14 rfl ⟨Nat.zero_le _, Nat.zero_le _⟩ (fun hr42 hs43 => ?_)
    obtain ⟨g44, hf⟩ := gd_some hf
    exact V_zret hC hr hlk g44 (re_1 hf) (re_2 hf) hs43 dX4_readsTree_17
/-! X5_hasCutAt -/
theorem kX5_hasCutAt_f47 : Cond.fieldLink RX5 47 "BarkNames$Wood" "cutCount" "I" ∈ wsX5_hasCutAt := by decide +kernel
theorem uX5_hasCutAt_5 : ∀ w ∈ u_ws RX5 TX5 12, w ∈ wsX5_hasCutAt := by decide +kernel
theorem kX5_hasCutAt_f21 : Cond.fieldLink RX5 21 "BarkNames$Wood" "treeOf" "[I" ∈ wsX5_hasCutAt := by decide +kernel
theorem kX5_hasCutAt_f27 : Cond.fieldLink RX5 27 "BarkNames$Wood" "placeOf" "[I" ∈ wsX5_hasCutAt := by decide +kernel
abbrev rmX5_hasCutAt : Room := { frames := 0, cells := 0, slots := 0, locals := 0 }
set_option maxHeartbeats 4000000 in
set_option maxRecDepth 100000 in
theorem tlX5_hasCutAt_2 {p : Program} {l : Launch} {e : Env} {s : State} {m : MethodId} {args : Array Value} {below : List Frame} {meth : Method} {c : Code} {G : GT} (hG : GI G) (hC : CX p s m args c cX5_hasCutAt 4 RX5 wsX5_hasCutAt G (AA G)) (hr : meth.sig.returnType = (some .boolean)) (hlk : meth.locks = false) {j0 : Nat} (hj0 : j0 < 28) {r0 : Int × Hp} : ∀ n : Nat, (∀ {σ : Hp} (hs : RgS σ) {v1 : Int} {v2 : Int} {v3 : Int} (h1 : Rg v1) (h2 : Rg v2) (h3 : Rg v3) (hf : lX5_hasCutAt_2 n σ j0 v1 v2 v3 = some r0), VV p l e (headSpec wsX5_hasCutAt rmX5_hasCutAt).room s m args below meth c (MQ below (QI G r0.1 r0.2) args s 0 0 (AA G)) G (AA G) 0 0 4 σ 2 [(0, rf G 5 j0), (1, iv v1), (2, iv v2), (3, iv v3)] []) := by
  intro n
  induction n with
  | zero =>
    exact by intro σ hs v1 v2 v3 h1 h2 h3 hf; exact absurd (show (none : Option (Int × Hp)) = some r0 from hf) (fun z => by cases z)
  | succ n ih =>
    intro σ hs v1 v2 v3 h1 h2 h3 hf
    replace hf := (lX5_hasCutAt_2_e0 n σ j0 v1 v2 v3).symm.trans hf
    refine V_iload_n (k := 3) (q := 3) hC 3 rfl dX5_hasCutAt_2 rfl ?_
    refine V_aload_n (k := 0) (q := 4) hC 0 rfl dX5_hasCutAt_3 rfl ?_
    refine V_getf (T := TX5) (k := 11) (q := 7) hC uX5_hasCutAt_5 rfl (iM5 hj0) rfl (by decide) kX5_hasCutAt_f47 rfl dX5_hasCutAt_4 rfl ?_
    refine V_icmp_ge (tgt := 38) (q := 10) hC h3 (hs _ _ _) dX5_hasCutAt_7 (by decide) rfl (fun c1 => ?_) (fun c1 => ?_)
    · replace hf := (if_pos c1).symm.trans hf
      refine V_iconst (q := 39) hC dX5_hasCutAt_38 rfl ?_
      exact V_zret hC hr hlk (Or.inl rfl) (re_1 hf) (re_2 hf) hs dX5_hasCutAt_39
    · replace hf := (if_neg c1).symm.trans hf
      refine V_aload_n (k := 0) (q := 11) hC 0 rfl dX5_hasCutAt_10 rfl ?_
      refine V_getf (T := TX5) (k := 3) (q := 14) hC uX5_hasCutAt_5 rfl (iM5 hj0) rfl (by decide) kX5_hasCutAt_f21 rfl dX5_hasCutAt_11 rfl ?_
      refine V_iload_n (k := 3) (q := 15) hC 3 rfl dX5_hasCutAt_14 rfl ?_
      obtain ⟨g2, hf⟩ := gd_some hf
      refine V_iald (n := 8) (q := 16) hC (iM16 hj0) rfl g2 h3 dX5_hasCutAt_15 rfl ?_
      refine V_iload_n (k := 1) (q := 17) hC 1 rfl dX5_hasCutAt_16 rfl ?_
      refine V_icmp_ne (tgt := 32) (q := 20) hC (hs _ _ _) h1 dX5_hasCutAt_17 (by decide) rfl (fun c3 => ?_) (fun c3 => ?_)
      · replace hf := (if_neg c3).symm.trans hf
        refine V_iinc (i := 3) (lv' := [(0, rf G 5 j0), (1, iv v1), (2, iv v2), (3, iv (wr (v3 + 1)))]) (q := 35) hC 3 rfl [1, 2, 3, 0] (by decide) rfl dX5_hasCutAt_32 rfl ?_
        refine V_goto (tgt := 2) hC dX5_hasCutAt_35 (by decide) ?_
        refine V_lsub [0, 1, 2, 3] rfl ?_
        exact ih hs h1 h2 (Rg_wr _) hf
      · replace hf := (if_pos c3).symm.trans hf
        refine V_aload_n (k := 0) (q := 21) hC 0 rfl dX5_hasCutAt_20 rfl ?_
        refine V_getf (T := TX5) (k := 5) (q := 24) hC uX5_hasCutAt_5 rfl (iM5 hj0) rfl (by decide) kX5_hasCutAt_f27 rfl dX5_hasCutAt_21 rfl ?_
        refine V_iload_n (k := 3) (q := 25) hC 3 rfl dX5_hasCutAt_24 rfl ?_
        obtain ⟨g4, hf⟩ := gd_some hf
        refine V_iald (n := 8) (q := 26) hC (iM18 hj0) rfl g4 h3 dX5_hasCutAt_25 rfl ?_
        refine V_iload_n (k := 2) (q := 27) hC 2 rfl dX5_hasCutAt_26 rfl ?_
        refine V_icmp_ne (tgt := 32) (q := 30) hC (hs _ _ _) h2 dX5_hasCutAt_27 (by decide) rfl (fun c5 => ?_) (fun c5 => ?_)
        · replace hf := (if_neg c5).symm.trans hf
          refine V_iinc (i := 3) (lv' := [(0, rf G 5 j0), (1, iv v1), (2, iv v2), (3, iv (wr (v3 + 1)))]) (q := 35) hC 3 rfl [1, 2, 3, 0] (by decide) rfl dX5_hasCutAt_32 rfl ?_
          refine V_goto (tgt := 2) hC dX5_hasCutAt_35 (by decide) ?_
          refine V_lsub [0, 1, 2, 3] rfl ?_
          exact ih hs h1 h2 (Rg_wr _) hf
        · replace hf := (if_pos c5).symm.trans hf
          refine V_iconst (q := 31) hC dX5_hasCutAt_30 rfl ?_
          exact V_zret hC hr hlk (Or.inr rfl) (re_1 hf) (re_2 hf) hs dX5_hasCutAt_31
set_option maxHeartbeats 4000000 in
set_option maxRecDepth 100000 in
theorem sX5_hasCutAt (l : Launch) {G : GT} (hG : GI G) {j0 : Nat} {v1 : Int} {v2 : Int} (hj0 : j0 < 28) (h1 : Rg v1) (h2 : Rg v2) {σ : Hp} (hs : RgS σ) {r0 : Int × Hp} (hf : fX5_hasCutAt σ j0 v1 v2 = some r0) : Cti l G yX5_hasCutAt wsX5_hasCutAt rmX5_hasCutAt [rf G 5 j0, iv v1, iv v2] σ r0.1 r0.2 := by
  unfold fX5_hasCutAt at hf
  refine Cti_start (lv := [(0, rf G 5 j0), (1, iv v1), (2, iv v2)]) (ret := (some .boolean)) (by decide +kernel) rfl hG (Nat.le_of_ble_eq_true rfl) rfl (fun p e s m args below meth c hC hr hlk => ?_)
  refine V_iconst (q := 1) hC dX5_hasCutAt_0 rfl ?_
  refine V_istore_n (k := 3) (i := 3) (lv' := [(0, rf G 5 j0), (1, iv v1), (2, iv v2), (3, iv 0)]) (q := 2) hC [1, 2, 3, 0] rfl (by decide) rfl dX5_hasCutAt_1 rfl ?_
  refine V_lsub [0, 1, 2, 3] rfl ?_
  exact (tlX5_hasCutAt_2 hG hC hr hlk hj0 FU) hs h1 h2 (Rg_c rfl) hf
/-! X5_addCut -/
theorem kX5_addCut_f47 : Cond.fieldLink RX5 47 "BarkNames$Wood" "cutCount" "I" ∈ wsX5_addCut := by decide +kernel
theorem uX5_addCut_5 : ∀ w ∈ u_ws RX5 TX5 12, w ∈ wsX5_addCut := by decide +kernel
theorem kX5_addCut_f21 : Cond.fieldLink RX5 21 "BarkNames$Wood" "treeOf" "[I" ∈ wsX5_addCut := by decide +kernel
theorem kX5_addCut_f24 : Cond.fieldLink RX5 24 "BarkNames$Wood" "letterOf" "[I" ∈ wsX5_addCut := by decide +kernel
theorem kX5_addCut_f27 : Cond.fieldLink RX5 27 "BarkNames$Wood" "placeOf" "[I" ∈ wsX5_addCut := by decide +kernel
theorem kX5_addCut_f30 : Cond.fieldLink RX5 30 "BarkNames$Wood" "depthOf" "[I" ∈ wsX5_addCut := by decide +kernel
abbrev rmX5_addCut : Room := { frames := 0, cells := 0, slots := 0, locals := 0 }
set_option maxHeartbeats 4000000 in
set_option maxRecDepth 100000 in
theorem sX5_addCut (l : Launch) {G : GT} (hG : GI G) {j0 : Nat} {v1 : Int} {v2 : Int} {v3 : Int} {v4 : Int} (hj0 : j0 < 28) (h1 : Rg v1) (h2 : Rg v2) (h3 : Rg v3) (h4 : Rg v4) {σ : Hp} (hs : RgS σ) {r0 : Int × Hp} (hf : fX5_addCut σ j0 v1 v2 v3 v4 = some r0) : Ctv l G yX5_addCut wsX5_addCut rmX5_addCut [rf G 5 j0, iv v1, iv v2, iv v3, iv v4] σ r0.2 := by
  unfold fX5_addCut at hf
  refine Ctv_start (lv := [(0, rf G 5 j0), (1, iv v1), (2, iv v2), (3, iv v3), (4, iv v4)]) (ret := none) (by decide +kernel) rfl hG (Nat.le_of_ble_eq_true rfl) rfl (fun p e s m args below meth c hC hr hlk => ?_)
  refine V_aload_n (k := 0) (q := 1) hC 0 rfl dX5_addCut_0 rfl ?_
  refine V_getf (T := TX5) (k := 11) (q := 4) hC uX5_addCut_5 rfl (iM5 hj0) rfl (by decide) kX5_addCut_f47 rfl dX5_addCut_1 rfl ?_
  refine V_bipush (q := 6) hC (by decide) dX5_addCut_4 rfl ?_
  refine V_icmp_ge (tgt := 60) (q := 9) hC (hs _ _ _) (Rg_c rfl) dX5_addCut_6 (by decide) rfl (fun c1 => ?_) (fun c1 => ?_)
  · replace hf := (if_pos c1).symm.trans hf
    exact V_vret hC hr hlk (re_2 hf) hs dX5_addCut_60
  · replace hf := (if_neg c1).symm.trans hf
    refine V_aload_n (k := 0) (q := 10) hC 0 rfl dX5_addCut_9 rfl ?_
    refine V_getf (T := TX5) (k := 3) (q := 13) hC uX5_addCut_5 rfl (iM5 hj0) rfl (by decide) kX5_addCut_f21 rfl dX5_addCut_10 rfl ?_
    refine V_aload_n (k := 0) (q := 14) hC 0 rfl dX5_addCut_13 rfl ?_
    refine V_getf (T := TX5) (k := 11) (q := 17) hC uX5_addCut_5 rfl (iM5 hj0) rfl (by decide) kX5_addCut_f47 rfl dX5_addCut_14 rfl ?_
    refine V_iload_n (k := 1) (q := 18) hC 1 rfl dX5_addCut_17 rfl ?_
    obtain ⟨g2, hf⟩ := gd_some hf
    obtain ⟨σ3, e4, hf⟩ := sq_ex hf
    have hs5 : RgS σ3 := by rw [e4]; exact RgS_hup hs h1
    refine V_iast (n := 8) (q := 19) hC (iM16 hj0) rfl g2 (hs _ _ _) e4 dX5_addCut_18 rfl ?_
    refine V_aload_n (k := 0) (q := 20) hC 0 rfl dX5_addCut_19 rfl ?_
    refine V_getf (T := TX5) (k := 4) (q := 23) hC uX5_addCut_5 rfl (iM5 hj0) rfl (by decide) kX5_addCut_f24 rfl dX5_addCut_20 rfl ?_
    refine V_aload_n (k := 0) (q := 24) hC 0 rfl dX5_addCut_23 rfl ?_
    refine V_getf (T := TX5) (k := 11) (q := 27) hC uX5_addCut_5 rfl (iM5 hj0) rfl (by decide) kX5_addCut_f47 rfl dX5_addCut_24 rfl ?_
    refine V_iload_n (k := 2) (q := 28) hC 2 rfl dX5_addCut_27 rfl ?_
    obtain ⟨g6, hf⟩ := gd_some hf
    obtain ⟨σ7, e8, hf⟩ := sq_ex hf
    have hs9 : RgS σ7 := by rw [e8]; exact RgS_hup hs5 h2
    refine V_iast (n := 8) (q := 29) hC (iM17 hj0) rfl g6 (hs5 _ _ _) e8 dX5_addCut_28 rfl ?_
    refine V_aload_n (k := 0) (q := 30) hC 0 rfl dX5_addCut_29 rfl ?_
    refine V_getf (T := TX5) (k := 5) (q := 33) hC uX5_addCut_5 rfl (iM5 hj0) rfl (by decide) kX5_addCut_f27 rfl dX5_addCut_30 rfl ?_
    refine V_aload_n (k := 0) (q := 34) hC 0 rfl dX5_addCut_33 rfl ?_
    refine V_getf (T := TX5) (k := 11) (q := 37) hC uX5_addCut_5 rfl (iM5 hj0) rfl (by decide) kX5_addCut_f47 rfl dX5_addCut_34 rfl ?_
    refine V_iload_n (k := 3) (q := 38) hC 3 rfl dX5_addCut_37 rfl ?_
    obtain ⟨g10, hf⟩ := gd_some hf
    obtain ⟨σ11, e12, hf⟩ := sq_ex hf
    have hs13 : RgS σ11 := by rw [e12]; exact RgS_hup hs9 h3
    refine V_iast (n := 8) (q := 39) hC (iM18 hj0) rfl g10 (hs9 _ _ _) e12 dX5_addCut_38 rfl ?_
    refine V_aload_n (k := 0) (q := 40) hC 0 rfl dX5_addCut_39 rfl ?_
    refine V_getf (T := TX5) (k := 6) (q := 43) hC uX5_addCut_5 rfl (iM5 hj0) rfl (by decide) kX5_addCut_f30 rfl dX5_addCut_40 rfl ?_
    refine V_aload_n (k := 0) (q := 44) hC 0 rfl dX5_addCut_43 rfl ?_
    refine V_getf (T := TX5) (k := 11) (q := 47) hC uX5_addCut_5 rfl (iM5 hj0) rfl (by decide) kX5_addCut_f47 rfl dX5_addCut_44 rfl ?_
    refine V_iload (k := 4) (q := 49) hC 4 rfl dX5_addCut_47 rfl ?_
    obtain ⟨g14, hf⟩ := gd_some hf
    obtain ⟨σ15, e16, hf⟩ := sq_ex hf
    have hs17 : RgS σ15 := by rw [e16]; exact RgS_hup hs13 h4
    refine V_iast (n := 8) (q := 50) hC (iM19 hj0) rfl g14 (hs13 _ _ _) e16 dX5_addCut_49 rfl ?_
    refine V_aload_n (k := 0) (q := 51) hC 0 rfl dX5_addCut_50 rfl ?_
    refine V_dup (q := 52) hC rfl dX5_addCut_51 rfl ?_
    refine V_getf (T := TX5) (k := 11) (q := 55) hC uX5_addCut_5 rfl (iM5 hj0) rfl (by decide) kX5_addCut_f47 rfl dX5_addCut_52 rfl ?_
    refine V_iconst (q := 56) hC dX5_addCut_55 rfl ?_
    refine V_iadd (q := 57) hC dX5_addCut_56 rfl ?_
    obtain ⟨σ18, e19, hf⟩ := sq_ex hf
    have hs20 : RgS σ18 := by rw [e19]; exact RgS_hup hs17 (Rg_wr _)
    refine V_putf (T := TX5) (k := 11) (ty := .int) (q := 60) hC uX5_addCut_5 rfl tyX5 tyX5_ok nmX5 (iM5 hj0) rfl (pf_5_11 _ _ _ _ rfl) (by decide) kX5_addCut_f47 rfl (by decide +kernel) rfl rfl (Nat.le_of_ble_eq_true rfl) e19 dX5_addCut_57 rfl ?_
    exact V_vret hC hr hlk (re_2 hf) hs20 dX5_addCut_60
/-! X4_readsCut -/
theorem kX4_readsCut_f64 : Cond.fieldLink RX4 64 "BarkNames$Wood" "cutCount" "I" ∈ wsX4_readsCut := by decide +kernel
theorem uX4_readsCut_5 : ∀ w ∈ u_ws RX5 TX5 12, w ∈ wsX4_readsCut := by decide +kernel
theorem kX4_readsCut_f19 : Cond.fieldLink RX4 19 "BarkNames$Tape" "at" "I" ∈ wsX4_readsCut := by decide +kernel
theorem uX4_readsCut_4 : ∀ w ∈ u_ws RX4 TX4 5, w ∈ wsX4_readsCut := by decide +kernel
theorem kX4_readsCut_f57 : Cond.fieldLink RX4 57 "BarkNames$Wood" "treeCount" "I" ∈ wsX4_readsCut := by decide +kernel
abbrev rmX4_readsCut : Room := { frames := 2, cells := 0, slots := 0, locals := 47 }
set_option maxHeartbeats 4000000 in
set_option maxRecDepth 100000 in
theorem sX4_readsCut (l : Launch) {G : GT} (hG : GI G) {j1 : Nat} (hj1 : j1 < 28) {σ : Hp} (hs : RgS σ) {r0 : Int × Hp} (hf : fX4_readsCut σ j1 = some r0) : Cti l G yX4_readsCut wsX4_readsCut rmX4_readsCut [rf G 4 0, rf G 5 j1] σ r0.1 r0.2 := by
  unfold fX4_readsCut at hf
  refine Cti_start (lv := [(0, rf G 4 0), (1, rf G 5 j1)]) (ret := (some .boolean)) (by decide +kernel) rfl hG (Nat.le_of_ble_eq_true rfl) rfl (fun p e s m args below meth c hC hr hlk => ?_)
  refine V_aload_n (k := 1) (q := 1) hC 1 rfl dX4_readsCut_0 rfl ?_
  refine V_getf (T := TX5) (k := 11) (q := 4) hC uX4_readsCut_5 rfl (iM5 hj1) rfl (by decide) kX4_readsCut_f64 rfl dX4_readsCut_1 rfl ?_
  refine V_bipush (q := 6) hC (by decide) dX4_readsCut_4 rfl ?_
  refine V_icmp_lt (tgt := 19) (q := 9) hC (hs _ _ _) (Rg_c rfl) dX4_readsCut_6 (by decide) rfl (fun c1 => ?_) (fun c1 => ?_)
  · replace hf := (if_pos c1).symm.trans hf
    refine V_aload_n (k := 0) (q := 20) hC 0 rfl dX4_readsCut_19 rfl ?_
    refine V_dup (q := 21) hC rfl dX4_readsCut_20 rfl ?_
    refine V_getf (T := TX4) (k := 4) (q := 24) hC uX4_readsCut_4 rfl iD4 rfl (by decide) kX4_readsCut_f19 rfl dX4_readsCut_21 rfl ?_
    refine V_iconst (q := 25) hC dX4_readsCut_24 rfl ?_
    refine V_iadd (q := 26) hC dX4_readsCut_25 rfl ?_
    obtain ⟨σ2, e3, hf⟩ := sq_ex hf
    have hs4 : RgS σ2 := by rw [e3]; exact RgS_hup hs (Rg_wr _)
    refine V_putf (T := TX4) (k := 4) (ty := .int) (q := 29) hC uX4_readsCut_4 rfl tyX4 tyX4_ok nmX4 iD4 rfl (pf_4_4 _ _ _ _ rfl) (by decide) kX4_readsCut_f19 rfl (by decide +kernel) rfl rfl (Nat.le_of_ble_eq_true rfl) e3 dX4_readsCut_26 rfl ?_
    refine V_aload_n (k := 0) (q := 30) hC 0 rfl dX4_readsCut_29 rfl ?_
    refine V_iconst (q := 31) hC dX4_readsCut_30 rfl ?_
    refine V_aload_n (k := 1) (q := 32) hC 1 rfl dX4_readsCut_31 rfl ?_
    refine V_getf (T := TX5) (k := 10) (q := 35) hC uX4_readsCut_5 rfl (iM5 hj1) rfl (by decide) kX4_readsCut_f57 rfl dX4_readsCut_32 rfl ?_
    refine V_iconst (q := 36) hC dX4_readsCut_35 rfl ?_
    refine V_isub (q := 37) hC dX4_readsCut_36 rfl ?_
    obtain ⟨r5, σ6, hc7, hf⟩ := cl_some hf
    refine V_cvi (st := []) (q := 40) (x0 := r5) (σ0 := σ6) hC (sX4_numberRead l hG (Rg_c rfl) (Rg_wr _) hs4 hc7) (cwV 2 hC.2.2.2.2.1 gX4_readsCut_X4_numberRead rfl rfl rfl (by decide +kernel) ⟨Nat.le_of_ble_eq_true rfl, Nat.le_of_ble_eq_true rfl⟩) ⟨_, rfl, rfl⟩ iD4 (fun _ => ⟨_, rfl⟩) rfl rfl (Nat.le_of_ble_eq_true rfl) dX4_readsCut_37 rfl ⟨Nat.zero_le _, Nat.zero_le _⟩ (fun hr8 hs9 => ?_)
    refine V_istore_n (k := 2) (i := 2) (lv' := [(0, rf G 4 0), (1, rf G 5 j1), (2, iv r5)]) (q := 41) hC [1, 2, 0] rfl (by decide) rfl dX4_readsCut_40 rfl ?_
    refine V_iload_n (k := 2) (q := 42) hC 2 rfl dX4_readsCut_41 rfl ?_
    refine V_if_lt (tgt := 54) (q := 45) hC hr8 dX4_readsCut_42 (by decide) rfl (fun c10 => ?_) (fun c10 => ?_)
    · replace hf := (if_pos c10).symm.trans hf
      refine V_iconst (q := 55) hC dX4_readsCut_54 rfl ?_
      exact V_zret hC hr hlk (Or.inl rfl) (re_1 hf) (re_2 hf) hs9 dX4_readsCut_55
    · replace hf := (if_neg c10).symm.trans hf
      refine V_aload_n (k := 0) (q := 46) hC 0 rfl dX4_readsCut_45 rfl ?_
      refine V_bipush (q := 48) hC (by decide) dX4_readsCut_46 rfl ?_
      obtain ⟨r11, σ12, hc13, hf⟩ := cl_some hf
      refine V_cvi (st := []) (q := 51) (x0 := r11) (σ0 := σ12) hC (sX4_reads l hG (Rg_c rfl) hs9 hc13) (cwV 1 hC.2.2.2.2.1 gX4_readsCut_X4_reads rfl rfl rfl (by decide +kernel) ⟨Nat.le_of_ble_eq_true rfl, Nat.le_of_ble_eq_true rfl⟩) ⟨_, rfl, rfl⟩ iD4 (fun _ => ⟨_, rfl⟩) rfl rfl (Nat.le_of_ble_eq_true rfl) dX4_readsCut_48 rfl ⟨Nat.zero_le _, Nat.zero_le _⟩ (fun hr14 hs15 => ?_)
      refine V_if_ne (tgt := 56) (q := 54) hC hr14 dX4_readsCut_51 (by decide) rfl (fun c16 => ?_) (fun c16 => ?_)
      · replace hf := (if_neg c16).symm.trans hf
        refine V_aload_n (k := 0) (q := 57) hC 0 rfl dX4_readsCut_56 rfl ?_
        refine V_iconst (q := 58) hC dX4_readsCut_57 rfl ?_
        refine V_bipush (q := 60) hC (by decide) dX4_readsCut_58 rfl ?_
        obtain ⟨r17, σ18, hc19, hf⟩ := cl_some hf
        refine V_cvi (st := []) (q := 63) (x0 := r17) (σ0 := σ18) hC (sX4_numberRead l hG (Rg_c rfl) (Rg_c rfl) hs15 hc19) (cwV 2 hC.2.2.2.2.1 gX4_readsCut_X4_numberRead rfl rfl rfl (by decide +kernel) ⟨Nat.le_of_ble_eq_true rfl, Nat.le_of_ble_eq_true rfl⟩) ⟨_, rfl, rfl⟩ iD4 (fun _ => ⟨_, rfl⟩) rfl rfl (Nat.le_of_ble_eq_true rfl) dX4_readsCut_60 rfl ⟨Nat.zero_le _, Nat.zero_le _⟩ (fun hr20 hs21 => ?_)
        refine V_istore_n (k := 3) (i := 3) (lv' := [(0, rf G 4 0), (1, rf G 5 j1), (2, iv r5), (3, iv r17)]) (q := 64) hC [1, 2, 3, 0] rfl (by decide) rfl dX4_readsCut_63 rfl ?_
        refine V_iload_n (k := 3) (q := 65) hC 3 rfl dX4_readsCut_64 rfl ?_
        refine V_if_lt (tgt := 77) (q := 68) hC hr20 dX4_readsCut_65 (by decide) rfl (fun c22 => ?_) (fun c22 => ?_)
        · replace hf := (if_pos c22).symm.trans hf
          refine V_iconst (q := 78) hC dX4_readsCut_77 rfl ?_
          exact V_zret hC hr hlk (Or.inl rfl) (re_1 hf) (re_2 hf) hs21 dX4_readsCut_78
        · replace hf := (if_neg c22).symm.trans hf
          refine V_aload_n (k := 0) (q := 69) hC 0 rfl dX4_readsCut_68 rfl ?_
          refine V_bipush (q := 71) hC (by decide) dX4_readsCut_69 rfl ?_
          obtain ⟨r23, σ24, hc25, hf⟩ := cl_some hf
          refine V_cvi (st := []) (q := 74) (x0 := r23) (σ0 := σ24) hC (sX4_reads l hG (Rg_c rfl) hs21 hc25) (cwV 1 hC.2.2.2.2.1 gX4_readsCut_X4_reads rfl rfl rfl (by decide +kernel) ⟨Nat.le_of_ble_eq_true rfl, Nat.le_of_ble_eq_true rfl⟩) ⟨_, rfl, rfl⟩ iD4 (fun _ => ⟨_, rfl⟩) rfl rfl (Nat.le_of_ble_eq_true rfl) dX4_readsCut_71 rfl ⟨Nat.zero_le _, Nat.zero_le _⟩ (fun hr26 hs27 => ?_)
          refine V_if_ne (tgt := 79) (q := 77) hC hr26 dX4_readsCut_74 (by decide) rfl (fun c28 => ?_) (fun c28 => ?_)
          · replace hf := (if_neg c28).symm.trans hf
            refine V_aload_n (k := 0) (q := 80) hC 0 rfl dX4_readsCut_79 rfl ?_
            refine V_getf (T := TX4) (k := 4) (q := 83) hC uX4_readsCut_4 rfl iD4 rfl (by decide) kX4_readsCut_f19 rfl dX4_readsCut_80 rfl ?_
            refine V_istore (i := 4) (lv' := [(0, rf G 4 0), (1, rf G 5 j1), (2, iv r5), (3, iv r17), (4, iv (σ24 4 0 4))]) (q := 85) hC [1, 2, 3, 4, 0] (by decide) rfl dX4_readsCut_83 rfl ?_
            refine V_aload_n (k := 0) (q := 86) hC 0 rfl dX4_readsCut_85 rfl ?_
            refine V_iconst (q := 87) hC dX4_readsCut_86 rfl ?_
            refine V_bipush (q := 89) hC (by decide) dX4_readsCut_87 rfl ?_
            obtain ⟨r29, σ30, hc31, hf⟩ := cl_some hf
            refine V_cvi (st := []) (q := 92) (x0 := r29) (σ0 := σ30) hC (sX4_numberRead l hG (Rg_c rfl) (Rg_c rfl) hs27 hc31) (cwV 2 hC.2.2.2.2.1 gX4_readsCut_X4_numberRead rfl rfl rfl (by decide +kernel) ⟨Nat.le_of_ble_eq_true rfl, Nat.le_of_ble_eq_true rfl⟩) ⟨_, rfl, rfl⟩ iD4 (fun _ => ⟨_, rfl⟩) rfl rfl (Nat.le_of_ble_eq_true rfl) dX4_readsCut_89 rfl ⟨Nat.zero_le _, Nat.zero_le _⟩ (fun hr32 hs33 => ?_)
            refine V_istore (i := 5) (lv' := [(0, rf G 4 0), (1, rf G 5 j1), (2, iv r5), (3, iv r17), (4, iv (σ24 4 0 4)), (5, iv r29)]) (q := 94) hC [1, 2, 3, 4, 5, 0] (by decide) rfl dX4_readsCut_92 rfl ?_
            refine V_iload (k := 5) (q := 96) hC 5 rfl dX4_readsCut_94 rfl ?_
            refine V_if_ge (tgt := 101) (q := 99) hC hr32 dX4_readsCut_96 (by decide) rfl (fun c34 => ?_) (fun c34 => ?_)
            · replace hf := (if_pos c34).symm.trans hf
              refine V_aload_n (k := 1) (q := 102) hC 1 rfl dX4_readsCut_101 rfl ?_
              refine V_iload_n (k := 2) (q := 103) hC 2 rfl dX4_readsCut_102 rfl ?_
              refine V_iload (k := 5) (q := 105) hC 5 rfl dX4_readsCut_103 rfl ?_
              obtain ⟨r35, σ36, hc37, hf⟩ := cl_some hf
              refine V_cvi (st := []) (q := 108) (x0 := r35) (σ0 := σ36) hC (sX5_hasCutAt l hG hj1 hr8 hr32 hs33 hc37) (cwV 2 hC.2.2.2.2.1 gX4_readsCut_X5_hasCutAt rfl rfl rfl (by decide +kernel) ⟨Nat.le_of_ble_eq_true rfl, Nat.le_of_ble_eq_true rfl⟩) ⟨_, rfl, rfl⟩ (iM5 hj1) (fun _ => ⟨_, rfl⟩) rfl rfl (Nat.le_of_ble_eq_true rfl) dX4_readsCut_105 rfl ⟨Nat.zero_le _, Nat.zero_le _⟩ (fun hr38 hs39 => ?_)
              refine V_if_eq (tgt := 119) (q := 111) hC hr38 dX4_readsCut_108 (by decide) rfl (fun c40 => ?_) (fun c40 => ?_)
              · replace hf := (if_pos c40).symm.trans hf
                refine V_aload_n (k := 0) (q := 120) hC 0 rfl dX4_readsCut_119 rfl ?_
                refine V_bipush (q := 122) hC (by decide) dX4_readsCut_120 rfl ?_
                obtain ⟨r41, σ42, hc43, hf⟩ := cl_some hf
                refine V_cvi (st := []) (q := 125) (x0 := r41) (σ0 := σ42) hC (sX4_reads l hG (Rg_c rfl) hs39 hc43) (cwV 1 hC.2.2.2.2.1 gX4_readsCut_X4_reads rfl rfl rfl (by decide +kernel) ⟨Nat.le_of_ble_eq_true rfl, Nat.le_of_ble_eq_true rfl⟩) ⟨_, rfl, rfl⟩ iD4 (fun _ => ⟨_, rfl⟩) rfl rfl (Nat.le_of_ble_eq_true rfl) dX4_readsCut_122 rfl ⟨Nat.zero_le _, Nat.zero_le _⟩ (fun hr44 hs45 => ?_)
                refine V_if_ne (tgt := 130) (q := 128) hC hr44 dX4_readsCut_125 (by decide) rfl (fun c46 => ?_) (fun c46 => ?_)
                · replace hf := (if_neg c46).symm.trans hf
                  refine V_aload_n (k := 0) (q := 131) hC 0 rfl dX4_readsCut_130 rfl ?_
                  refine V_iconst (q := 132) hC dX4_readsCut_131 rfl ?_
                  refine V_bipush (q := 134) hC (by decide) dX4_readsCut_132 rfl ?_
                  obtain ⟨r47, σ48, hc49, hf⟩ := cl_some hf
                  refine V_cvi (st := []) (q := 137) (x0 := r47) (σ0 := σ48) hC (sX4_numberRead l hG (Rg_c rfl) (Rg_c rfl) hs45 hc49) (cwV 2 hC.2.2.2.2.1 gX4_readsCut_X4_numberRead rfl rfl rfl (by decide +kernel) ⟨Nat.le_of_ble_eq_true rfl, Nat.le_of_ble_eq_true rfl⟩) ⟨_, rfl, rfl⟩ iD4 (fun _ => ⟨_, rfl⟩) rfl rfl (Nat.le_of_ble_eq_true rfl) dX4_readsCut_134 rfl ⟨Nat.zero_le _, Nat.zero_le _⟩ (fun hr50 hs51 => ?_)
                  refine V_istore (i := 6) (lv' := [(0, rf G 4 0), (1, rf G 5 j1), (2, iv r5), (3, iv r17), (4, iv (σ24 4 0 4)), (5, iv r29), (6, iv r47)]) (q := 139) hC [1, 2, 3, 4, 5, 6, 0] (by decide) rfl dX4_readsCut_137 rfl ?_
                  refine V_iload (k := 6) (q := 141) hC 6 rfl dX4_readsCut_139 rfl ?_
                  refine V_if_lt (tgt := 153) (q := 144) hC hr50 dX4_readsCut_141 (by decide) rfl (fun c52 => ?_) (fun c52 => ?_)
                  · replace hf := (if_pos c52).symm.trans hf
                    refine V_iconst (q := 154) hC dX4_readsCut_153 rfl ?_
                    exact V_zret hC hr hlk (Or.inl rfl) (re_1 hf) (re_2 hf) hs51 dX4_readsCut_154
                  · replace hf := (if_neg c52).symm.trans hf
                    refine V_aload_n (k := 0) (q := 145) hC 0 rfl dX4_readsCut_144 rfl ?_
                    refine V_bipush (q := 147) hC (by decide) dX4_readsCut_145 rfl ?_
                    obtain ⟨r53, σ54, hc55, hf⟩ := cl_some hf
                    refine V_cvi (st := []) (q := 150) (x0 := r53) (σ0 := σ54) hC (sX4_reads l hG (Rg_c rfl) hs51 hc55) (cwV 1 hC.2.2.2.2.1 gX4_readsCut_X4_reads rfl rfl rfl (by decide +kernel) ⟨Nat.le_of_ble_eq_true rfl, Nat.le_of_ble_eq_true rfl⟩) ⟨_, rfl, rfl⟩ iD4 (fun _ => ⟨_, rfl⟩) rfl rfl (Nat.le_of_ble_eq_true rfl) dX4_readsCut_147 rfl ⟨Nat.zero_le _, Nat.zero_le _⟩ (fun hr56 hs57 => ?_)
                    refine V_if_ne (tgt := 155) (q := 153) hC hr56 dX4_readsCut_150 (by decide) rfl (fun c58 => ?_) (fun c58 => ?_)
                    · replace hf := (if_neg c58).symm.trans hf
                      refine V_aload_n (k := 1) (q := 156) hC 1 rfl dX4_readsCut_155 rfl ?_
                      refine V_iload_n (k := 2) (q := 157) hC 2 rfl dX4_readsCut_156 rfl ?_
                      refine V_iload_n (k := 3) (q := 158) hC 3 rfl dX4_readsCut_157 rfl ?_
                      refine V_iload (k := 5) (q := 160) hC 5 rfl dX4_readsCut_158 rfl ?_
                      refine V_iload (k := 6) (q := 162) hC 6 rfl dX4_readsCut_160 rfl ?_
                      obtain ⟨r59, σ60, hc61, hf⟩ := cl_some hf
                      refine V_cvv (st := []) (q := 165) (σ0 := σ60) hC (sX5_addCut l hG hj1 hr8 hr20 hr32 hr50 hs57 hc61) (cwV 4 hC.2.2.2.2.1 gX4_readsCut_X5_addCut rfl rfl rfl (by decide +kernel) ⟨Nat.le_of_ble_eq_true rfl, Nat.le_of_ble_eq_true rfl⟩) ⟨_, rfl, rfl⟩ (iM5 hj1) (fun _ => ⟨_, rfl⟩) rfl rfl (Nat.le_of_ble_eq_true rfl) dX4_readsCut_162 rfl ⟨Nat.zero_le _, Nat.zero_le _⟩ (fun hs63 => ?_)
                      refine V_iconst (q := 166) hC dX4_readsCut_165 rfl ?_
                      exact V_zret hC hr hlk (Or.inr rfl) (re_1 hf) (re_2 hf) hs63 dX4_readsCut_166
                    · replace hf := (if_pos c58).symm.trans hf
                      refine V_iconst (q := 154) hC dX4_readsCut_153 rfl ?_
                      exact V_zret hC hr hlk (Or.inl rfl) (re_1 hf) (re_2 hf) hs57 dX4_readsCut_154
                · replace hf := (if_pos c46).symm.trans hf
                  refine V_iconst (q := 129) hC dX4_readsCut_128 rfl ?_
                  exact V_zret hC hr hlk (Or.inl rfl) (re_1 hf) (re_2 hf) hs45 dX4_readsCut_129
              · replace hf := (if_neg c40).symm.trans hf
                refine V_aload_n (k := 0) (q := 112) hC 0 rfl dX4_readsCut_111 rfl ?_
                refine V_iconst (q := 113) hC dX4_readsCut_112 rfl ?_
                refine V_iload (k := 4) (q := 115) hC 4 rfl dX4_readsCut_113 rfl ?_
                obtain ⟨r64, σ65, hc66, hf⟩ := cl_some hf
                refine V_cvi (st := []) (q := 118) (x0 := r64) (σ0 := σ65) hC (sX4_fails l hG (Rg_c rfl) (hs27 _ _ _) hs39 hc66) (cwV 2 hC.2.2.2.2.1 gX4_readsCut_X4_fails rfl rfl rfl (by decide +kernel) ⟨Nat.le_of_ble_eq_true rfl, Nat.le_of_ble_eq_true rfl⟩) ⟨_, rfl, rfl⟩ iD4 (fun _ => ⟨_, rfl⟩) rfl rfl (Nat.le_of_ble_eq_true rfl) dX4_readsCut_115 rfl ⟨Nat.zero_le _, Nat.zero_le _⟩ (fun hr67 hs68 => ?_)
                obtain ⟨g69, hf⟩ := gd_some hf
                exact V_zret hC hr hlk g69 (re_1 hf) (re_2 hf) hs68 dX4_readsCut_118
            · replace hf := (if_neg c34).symm.trans hf
              refine V_iconst (q := 100) hC dX4_readsCut_99 rfl ?_
              exact V_zret hC hr hlk (Or.inl rfl) (re_1 hf) (re_2 hf) hs33 dX4_readsCut_100
          · replace hf := (if_pos c28).symm.trans hf
            refine V_iconst (q := 78) hC dX4_readsCut_77 rfl ?_
            exact V_zret hC hr hlk (Or.inl rfl) (re_1 hf) (re_2 hf) hs27 dX4_readsCut_78
      · replace hf := (if_pos c16).symm.trans hf
        refine V_iconst (q := 55) hC dX4_readsCut_54 rfl ?_
        exact V_zret hC hr hlk (Or.inl rfl) (re_1 hf) (re_2 hf) hs15 dX4_readsCut_55
  · replace hf := (if_neg c1).symm.trans hf
    refine V_aload_n (k := 0) (q := 10) hC 0 rfl dX4_readsCut_9 rfl ?_
    refine V_iconst (q := 11) hC dX4_readsCut_10 rfl ?_
    refine V_aload_n (k := 0) (q := 12) hC 0 rfl dX4_readsCut_11 rfl ?_
    refine V_getf (T := TX4) (k := 4) (q := 15) hC uX4_readsCut_4 rfl iD4 rfl (by decide) kX4_readsCut_f19 rfl dX4_readsCut_12 rfl ?_
    obtain ⟨r70, σ71, hc72, hf⟩ := cl_some hf
    refine V_cvi (st := []) (q := 18) (x0 := r70) (σ0 := σ71) hC (sX4_fails l hG (Rg_c rfl) (hs _ _ _) hs hc72) (cwV 2 hC.2.2.2.2.1 gX4_readsCut_X4_fails rfl rfl rfl (by decide +kernel) ⟨Nat.le_of_ble_eq_true rfl, Nat.le_of_ble_eq_true rfl⟩) ⟨_, rfl, rfl⟩ iD4 (fun _ => ⟨_, rfl⟩) rfl rfl (Nat.le_of_ble_eq_true rfl) dX4_readsCut_15 rfl ⟨Nat.zero_le _, Nat.zero_le _⟩ (fun hr73 hs74 => ?_)
    obtain ⟨g75, hf⟩ := gd_some hf
    exact V_zret hC hr hlk g75 (re_1 hf) (re_2 hf) hs74 dX4_readsCut_18
/-! X4_tells -/
theorem kX4_tells_f19 : Cond.fieldLink RX4 19 "BarkNames$Tape" "at" "I" ∈ wsX4_tells := by decide +kernel
theorem uX4_tells_4 : ∀ w ∈ u_ws RX4 TX4 5, w ∈ wsX4_tells := by decide +kernel
theorem kX4_tells_f15 : Cond.fieldLink RX4 15 "BarkNames$Tape" "length" "I" ∈ wsX4_tells := by decide +kernel
abbrev rmX4_tells : Room := { frames := 3, cells := 0, slots := 0, locals := 73 }
set_option maxHeartbeats 4000000 in
set_option maxRecDepth 100000 in
theorem tjX4_tells_78 {p : Program} {l : Launch} {e : Env} {s : State} {m : MethodId} {args : Array Value} {below : List Frame} {meth : Method} {c : Code} {G : GT} (hG : GI G) (hC : CX p s m args c cX4_tells 3 RX4 wsX4_tells G (AA G)) (hr : meth.sig.returnType = (some .boolean)) (hlk : meth.locks = false) {j1 : Nat} (hj1 : j1 < 28) {r0 : Int × Hp} {σ : Hp} (hs : RgS σ) (hf : jX4_tells_78 σ j1 = some r0) : VV p l e (headSpec wsX4_tells rmX4_tells).room s m args below meth c (MQ below (QI G r0.1 r0.2) args s 0 0 (AA G)) G (AA G) 0 0 3 σ 78 [(0, rf G 4 0)] [] := by
  unfold jX4_tells_78 at hf
  refine V_aload_n (k := 0) (q := 79) hC 0 rfl dX4_tells_78 rfl ?_
  refine V_getf (T := TX4) (k := 4) (q := 82) hC uX4_tells_4 rfl iD4 rfl (by decide) kX4_tells_f19 rfl dX4_tells_79 rfl ?_
  refine V_aload_n (k := 0) (q := 83) hC 0 rfl dX4_tells_82 rfl ?_
  refine V_getf (T := TX4) (k := 1) (q := 86) hC uX4_tells_4 rfl iD4 rfl (by decide) kX4_tells_f15 rfl dX4_tells_83 rfl ?_
  refine V_icmp_eq (tgt := 101) (q := 89) hC (hs _ _ _) (hs _ _ _) dX4_tells_86 (by decide) rfl (fun c36 => ?_) (fun c36 => ?_)
  · replace hf := (if_pos c36).symm.trans hf
    refine V_iconst (q := 102) hC dX4_tells_101 rfl ?_
    refine V_goto (tgt := 106) hC dX4_tells_102 (by decide) ?_
    exact V_zret hC hr hlk (Or.inr rfl) (re_1 hf) (re_2 hf) hs dX4_tells_106
  · replace hf := (if_neg c36).symm.trans hf
    refine V_aload_n (k := 0) (q := 90) hC 0 rfl dX4_tells_89 rfl ?_
    refine V_iconst (q := 91) hC dX4_tells_90 rfl ?_
    refine V_aload_n (k := 0) (q := 92) hC 0 rfl dX4_tells_91 rfl ?_
    refine V_getf (T := TX4) (k := 4) (q := 95) hC uX4_tells_4 rfl iD4 rfl (by decide) kX4_tells_f19 rfl dX4_tells_92 rfl ?_
    obtain ⟨r37, σ38, hc39, hf⟩ := cl_some hf
    refine V_cvi (st := []) (q := 98) (x0 := r37) (σ0 := σ38) hC (sX4_fails l hG (Rg_c rfl) (hs _ _ _) hs hc39) (cwV 2 hC.2.2.2.2.1 gX4_tells_X4_fails rfl rfl rfl (by decide +kernel) ⟨Nat.le_of_ble_eq_true rfl, Nat.le_of_ble_eq_true rfl⟩) ⟨_, rfl, rfl⟩ iD4 (fun _ => ⟨_, rfl⟩) rfl rfl (Nat.le_of_ble_eq_true rfl) dX4_tells_95 rfl ⟨Nat.zero_le _, Nat.zero_le _⟩ (fun hr40 hs41 => ?_)
    refine V_if_eq (tgt := 105) (q := 101) hC hr40 dX4_tells_98 (by decide) rfl (fun c42 => ?_) (fun c42 => ?_)
    · replace hf := (if_pos c42).symm.trans hf
      refine V_iconst (q := 106) hC dX4_tells_105 rfl ?_
      exact V_zret hC hr hlk (Or.inl rfl) (re_1 hf) (re_2 hf) hs41 dX4_tells_106
    · replace hf := (if_neg c42).symm.trans hf
      refine V_iconst (q := 102) hC dX4_tells_101 rfl ?_
      refine V_goto (tgt := 106) hC dX4_tells_102 (by decide) ?_
      exact V_zret hC hr hlk (Or.inr rfl) (re_1 hf) (re_2 hf) hs41 dX4_tells_106
set_option maxHeartbeats 4000000 in
set_option maxRecDepth 100000 in
theorem tlX4_tells_47 {p : Program} {l : Launch} {e : Env} {s : State} {m : MethodId} {args : Array Value} {below : List Frame} {meth : Method} {c : Code} {G : GT} (hG : GI G) (hC : CX p s m args c cX4_tells 3 RX4 wsX4_tells G (AA G)) (hr : meth.sig.returnType = (some .boolean)) (hlk : meth.locks = false) {j1 : Nat} (hj1 : j1 < 28) {r0 : Int × Hp} : ∀ n : Nat, (∀ {σ : Hp} (hs : RgS σ) {v2 : Int} (h2 : Rg v2) (hf : lX4_tells_47 n σ j1 v2 = some r0), VV p l e (headSpec wsX4_tells rmX4_tells).room s m args below meth c (MQ below (QI G r0.1 r0.2) args s 0 0 (AA G)) G (AA G) 0 0 3 σ 47 [(0, rf G 4 0), (1, rf G 5 j1), (2, iv v2)] []) := by
  intro n
  induction n with
  | zero =>
    exact by intro σ hs v2 h2 hf; exact absurd (show (none : Option (Int × Hp)) = some r0 from hf) (fun z => by cases z)
  | succ n ih =>
    intro σ hs v2 h2 hf
    replace hf := (lX4_tells_47_e0 n σ j1 v2).symm.trans hf
    refine V_iload_n (k := 2) (q := 48) hC 2 rfl dX4_tells_47 rfl ?_
    refine V_bipush (q := 50) hC (by decide) dX4_tells_48 rfl ?_
    refine V_icmp_gt (tgt := 78) (q := 53) hC h2 (Rg_c rfl) dX4_tells_50 (by decide) rfl (fun c23 => ?_) (fun c23 => ?_)
    · replace hf := (if_pos c23).symm.trans hf
      refine V_lsub [0] rfl ?_
      exact tjX4_tells_78 hG hC hr hlk hj1 hs  hf
    · replace hf := (if_neg c23).symm.trans hf
      refine V_aload_n (k := 0) (q := 54) hC 0 rfl dX4_tells_53 rfl ?_
      obtain ⟨r24, σ25, hc26, hf⟩ := cl_some hf
      refine V_cvi (st := []) (q := 57) (x0 := r24) (σ0 := σ25) hC (sX4_here l hG  hs hc26) (cwV 0 hC.2.2.2.2.1 gX4_tells_X4_here rfl rfl rfl (by decide +kernel) ⟨Nat.le_of_ble_eq_true rfl, Nat.le_of_ble_eq_true rfl⟩) ⟨_, rfl, rfl⟩ iD4 (fun _ => ⟨_, rfl⟩) rfl rfl (Nat.le_of_ble_eq_true rfl) dX4_tells_54 rfl ⟨Nat.zero_le _, Nat.zero_le _⟩ (fun hr27 hs28 => ?_)
      refine V_bipush (q := 59) hC (by decide) dX4_tells_57 rfl ?_
      refine V_icmp_ne (tgt := 78) (q := 62) hC hr27 (Rg_c rfl) dX4_tells_59 (by decide) rfl (fun c29 => ?_) (fun c29 => ?_)
      · replace hf := (if_neg c29).symm.trans hf
        refine V_lsub [0] rfl ?_
        exact tjX4_tells_78 hG hC hr hlk hj1 hs28  hf
      · replace hf := (if_pos c29).symm.trans hf
        refine V_aload_n (k := 0) (q := 63) hC 0 rfl dX4_tells_62 rfl ?_
        refine V_aload_n (k := 1) (q := 64) hC 1 rfl dX4_tells_63 rfl ?_
        obtain ⟨r30, σ31, hc32, hf⟩ := cl_some hf
        refine V_cvi (st := []) (q := 67) (x0 := r30) (σ0 := σ31) hC (sX4_readsCut l hG hj1 hs28 hc32) (cwV 1 hC.2.2.2.2.1 gX4_tells_X4_readsCut rfl rfl rfl (by decide +kernel) ⟨Nat.le_of_ble_eq_true rfl, Nat.le_of_ble_eq_true rfl⟩) ⟨_, rfl, rfl⟩ iD4 (fun _ => ⟨_, rfl⟩) rfl rfl (Nat.le_of_ble_eq_true rfl) dX4_tells_64 rfl ⟨Nat.zero_le _, Nat.zero_le _⟩ (fun hr33 hs34 => ?_)
        refine V_if_ne (tgt := 72) (q := 70) hC hr33 dX4_tells_67 (by decide) rfl (fun c35 => ?_) (fun c35 => ?_)
        · replace hf := (if_neg c35).symm.trans hf
          refine V_iinc (i := 2) (lv' := [(0, rf G 4 0), (1, rf G 5 j1), (2, iv (wr (v2 + 1)))]) (q := 75) hC 2 rfl [1, 2, 0] (by decide) rfl dX4_tells_72 rfl ?_
          refine V_goto (tgt := 47) hC dX4_tells_75 (by decide) ?_
          refine V_lsub [0, 1, 2] rfl ?_
          exact ih hs34 (Rg_wr _) hf
        · replace hf := (if_pos c35).symm.trans hf
          refine V_iconst (q := 71) hC dX4_tells_70 rfl ?_
          exact V_zret hC hr hlk (Or.inl rfl) (re_1 hf) (re_2 hf) hs34 dX4_tells_71
set_option maxHeartbeats 4000000 in
set_option maxRecDepth 100000 in
theorem tlX4_tells_17 {p : Program} {l : Launch} {e : Env} {s : State} {m : MethodId} {args : Array Value} {below : List Frame} {meth : Method} {c : Code} {G : GT} (hG : GI G) (hC : CX p s m args c cX4_tells 3 RX4 wsX4_tells G (AA G)) (hr : meth.sig.returnType = (some .boolean)) (hlk : meth.locks = false) {j1 : Nat} (hj1 : j1 < 28) {r0 : Int × Hp} : ∀ n : Nat, (∀ {σ : Hp} (hs : RgS σ) {v2 : Int} (h2 : Rg v2) (hf : lX4_tells_17 n σ j1 v2 = some r0), VV p l e (headSpec wsX4_tells rmX4_tells).room s m args below meth c (MQ below (QI G r0.1 r0.2) args s 0 0 (AA G)) G (AA G) 0 0 3 σ 17 [(0, rf G 4 0), (1, rf G 5 j1), (2, iv v2)] []) := by
  intro n
  induction n with
  | zero =>
    exact by intro σ hs v2 h2 hf; exact absurd (show (none : Option (Int × Hp)) = some r0 from hf) (fun z => by cases z)
  | succ n ih =>
    intro σ hs v2 h2 hf
    replace hf := (lX4_tells_17_e0 n σ j1 v2).symm.trans hf
    refine V_iload_n (k := 2) (q := 18) hC 2 rfl dX4_tells_17 rfl ?_
    refine V_iconst (q := 19) hC dX4_tells_18 rfl ?_
    refine V_icmp_gt (tgt := 45) (q := 22) hC h2 (Rg_c rfl) dX4_tells_19 (by decide) rfl (fun c10 => ?_) (fun c10 => ?_)
    · replace hf := (if_pos c10).symm.trans hf
      refine V_iconst (q := 46) hC dX4_tells_45 rfl ?_
      refine V_istore_n (k := 2) (i := 2) (lv' := [(0, rf G 4 0), (1, rf G 5 j1), (2, iv 0)]) (q := 47) hC [1, 2, 0] rfl (by decide) rfl dX4_tells_46 rfl ?_
      refine V_lsub [0, 1, 2] rfl ?_
      exact (tlX4_tells_47 hG hC hr hlk hj1 FU) hs (Rg_c rfl) hf
    · replace hf := (if_neg c10).symm.trans hf
      refine V_aload_n (k := 0) (q := 23) hC 0 rfl dX4_tells_22 rfl ?_
      obtain ⟨r11, σ12, hc13, hf⟩ := cl_some hf
      refine V_cvi (st := []) (q := 26) (x0 := r11) (σ0 := σ12) hC (sX4_kindHere l hG  hs hc13) (cwV 0 hC.2.2.2.2.1 gX4_tells_X4_kindHere rfl rfl rfl (by decide +kernel) ⟨Nat.le_of_ble_eq_true rfl, Nat.le_of_ble_eq_true rfl⟩) ⟨_, rfl, rfl⟩ iD4 (fun _ => ⟨_, rfl⟩) rfl rfl (Nat.le_of_ble_eq_true rfl) dX4_tells_23 rfl ⟨Nat.zero_le _, Nat.zero_le _⟩ (fun hr14 hs15 => ?_)
      refine V_if_eq (tgt := 45) (q := 29) hC hr14 dX4_tells_26 (by decide) rfl (fun c16 => ?_) (fun c16 => ?_)
      · replace hf := (if_pos c16).symm.trans hf
        refine V_iconst (q := 46) hC dX4_tells_45 rfl ?_
        refine V_istore_n (k := 2) (i := 2) (lv' := [(0, rf G 4 0), (1, rf G 5 j1), (2, iv 0)]) (q := 47) hC [1, 2, 0] rfl (by decide) rfl dX4_tells_46 rfl ?_
        refine V_lsub [0, 1, 2] rfl ?_
        exact (tlX4_tells_47 hG hC hr hlk hj1 FU) hs15 (Rg_c rfl) hf
      · replace hf := (if_neg c16).symm.trans hf
        refine V_aload_n (k := 0) (q := 30) hC 0 rfl dX4_tells_29 rfl ?_
        refine V_aload_n (k := 1) (q := 31) hC 1 rfl dX4_tells_30 rfl ?_
        obtain ⟨r17, σ18, hc19, hf⟩ := cl_some hf
        refine V_cvi (st := []) (q := 34) (x0 := r17) (σ0 := σ18) hC (sX4_readsTree l hG hj1 hs15 hc19) (cwV 1 hC.2.2.2.2.1 gX4_tells_X4_readsTree rfl rfl rfl (by decide +kernel) ⟨Nat.le_of_ble_eq_true rfl, Nat.le_of_ble_eq_true rfl⟩) ⟨_, rfl, rfl⟩ iD4 (fun _ => ⟨_, rfl⟩) rfl rfl (Nat.le_of_ble_eq_true rfl) dX4_tells_31 rfl ⟨Nat.zero_le _, Nat.zero_le _⟩ (fun hr20 hs21 => ?_)
        refine V_if_ne (tgt := 39) (q := 37) hC hr20 dX4_tells_34 (by decide) rfl (fun c22 => ?_) (fun c22 => ?_)
        · replace hf := (if_neg c22).symm.trans hf
          refine V_iinc (i := 2) (lv' := [(0, rf G 4 0), (1, rf G 5 j1), (2, iv (wr (v2 + 1)))]) (q := 42) hC 2 rfl [1, 2, 0] (by decide) rfl dX4_tells_39 rfl ?_
          refine V_goto (tgt := 17) hC dX4_tells_42 (by decide) ?_
          refine V_lsub [0, 1, 2] rfl ?_
          exact ih hs21 (Rg_wr _) hf
        · replace hf := (if_pos c22).symm.trans hf
          refine V_iconst (q := 38) hC dX4_tells_37 rfl ?_
          exact V_zret hC hr hlk (Or.inl rfl) (re_1 hf) (re_2 hf) hs21 dX4_tells_38
set_option maxHeartbeats 4000000 in
set_option maxRecDepth 100000 in
theorem sX4_tells (l : Launch) {G : GT} (hG : GI G) {j1 : Nat} (hj1 : j1 < 28) {σ : Hp} (hs : RgS σ) {r0 : Int × Hp} (hf : fX4_tells σ j1 = some r0) : Cti l G yX4_tells wsX4_tells rmX4_tells [rf G 4 0, rf G 5 j1] σ r0.1 r0.2 := by
  unfold fX4_tells at hf
  refine Cti_start (lv := [(0, rf G 4 0), (1, rf G 5 j1)]) (ret := (some .boolean)) (by decide +kernel) rfl hG (Nat.le_of_ble_eq_true rfl) rfl (fun p e s m args below meth c hC hr hlk => ?_)
  refine V_aload_n (k := 0) (q := 1) hC 0 rfl dX4_tells_0 rfl ?_
  refine V_iconst (q := 2) hC dX4_tells_1 rfl ?_
  obtain ⟨σ1, e2, hf⟩ := sq_ex hf
  have hs3 : RgS σ1 := by rw [e2]; exact RgS_hup hs (Rg_c rfl)
  refine V_putf (T := TX4) (k := 4) (ty := .int) (q := 5) hC uX4_tells_4 rfl tyX4 tyX4_ok nmX4 iD4 rfl (pf_4_4 _ _ _ _ rfl) (by decide) kX4_tells_f19 rfl (by decide +kernel) rfl rfl (Nat.le_of_ble_eq_true rfl) e2 dX4_tells_2 rfl ?_
  refine V_aload_n (k := 0) (q := 6) hC 0 rfl dX4_tells_5 rfl ?_
  refine V_aload_n (k := 1) (q := 7) hC 1 rfl dX4_tells_6 rfl ?_
  obtain ⟨r4, σ5, hc6, hf⟩ := cl_some hf
  refine V_cvi (st := []) (q := 10) (x0 := r4) (σ0 := σ5) hC (sX4_readsLaw l hG hj1 hs3 hc6) (cwV 1 hC.2.2.2.2.1 gX4_tells_X4_readsLaw rfl rfl rfl (by decide +kernel) ⟨Nat.le_of_ble_eq_true rfl, Nat.le_of_ble_eq_true rfl⟩) ⟨_, rfl, rfl⟩ iD4 (fun _ => ⟨_, rfl⟩) rfl rfl (Nat.le_of_ble_eq_true rfl) dX4_tells_7 rfl ⟨Nat.zero_le _, Nat.zero_le _⟩ (fun hr7 hs8 => ?_)
  refine V_if_ne (tgt := 15) (q := 13) hC hr7 dX4_tells_10 (by decide) rfl (fun c9 => ?_) (fun c9 => ?_)
  · replace hf := (if_neg c9).symm.trans hf
    refine V_iconst (q := 16) hC dX4_tells_15 rfl ?_
    refine V_istore_n (k := 2) (i := 2) (lv' := [(0, rf G 4 0), (1, rf G 5 j1), (2, iv 0)]) (q := 17) hC [1, 2, 0] rfl (by decide) rfl dX4_tells_16 rfl ?_
    refine V_lsub [0, 1, 2] rfl ?_
    exact (tlX4_tells_17 hG hC hr hlk hj1 FU) hs8 (Rg_c rfl) hf
  · replace hf := (if_pos c9).symm.trans hf
    refine V_iconst (q := 14) hC dX4_tells_13 rfl ?_
    exact V_zret hC hr hlk (Or.inl rfl) (re_1 hf) (re_2 hf) hs8 dX4_tells_14
/-! X5_removeCut -/
theorem kX5_removeCut_f47 : Cond.fieldLink RX5 47 "BarkNames$Wood" "cutCount" "I" ∈ wsX5_removeCut := by decide +kernel
theorem uX5_removeCut_5 : ∀ w ∈ u_ws RX5 TX5 12, w ∈ wsX5_removeCut := by decide +kernel
theorem kX5_removeCut_f21 : Cond.fieldLink RX5 21 "BarkNames$Wood" "treeOf" "[I" ∈ wsX5_removeCut := by decide +kernel
theorem kX5_removeCut_f24 : Cond.fieldLink RX5 24 "BarkNames$Wood" "letterOf" "[I" ∈ wsX5_removeCut := by decide +kernel
theorem kX5_removeCut_f27 : Cond.fieldLink RX5 27 "BarkNames$Wood" "placeOf" "[I" ∈ wsX5_removeCut := by decide +kernel
theorem kX5_removeCut_f30 : Cond.fieldLink RX5 30 "BarkNames$Wood" "depthOf" "[I" ∈ wsX5_removeCut := by decide +kernel
abbrev rmX5_removeCut : Room := { frames := 0, cells := 0, slots := 0, locals := 0 }
set_option maxHeartbeats 4000000 in
set_option maxRecDepth 100000 in
theorem tlX5_removeCut_2 {p : Program} {l : Launch} {e : Env} {s : State} {m : MethodId} {args : Array Value} {below : List Frame} {meth : Method} {c : Code} {G : GT} (hG : GI G) (hC : CX p s m args c cX5_removeCut 3 RX5 wsX5_removeCut G (AA G)) (hr : meth.sig.returnType = none) (hlk : meth.locks = false) {j0 : Nat} (hj0 : j0 < 28) {r0 : Int × Hp} : ∀ n : Nat, (∀ {σ : Hp} (hs : RgS σ) {v2 : Int} (h2 : Rg v2) (hf : lX5_removeCut_2 n σ j0 v2 = some r0), VV p l e (headSpec wsX5_removeCut rmX5_removeCut).room s m args below meth c (MQ below (QV G r0.2) args s 0 0 (AA G)) G (AA G) 0 0 3 σ 2 [(0, rf G 5 j0), (2, iv v2)] []) := by
  intro n
  induction n with
  | zero =>
    exact by intro σ hs v2 h2 hf; exact absurd (show (none : Option (Int × Hp)) = some r0 from hf) (fun z => by cases z)
  | succ n ih =>
    intro σ hs v2 h2 hf
    replace hf := (lX5_removeCut_2_e0 n σ j0 v2).symm.trans hf
    refine V_iload_n (k := 2) (q := 3) hC 1 rfl dX5_removeCut_2 rfl ?_
    refine V_aload_n (k := 0) (q := 4) hC 0 rfl dX5_removeCut_3 rfl ?_
    refine V_getf (T := TX5) (k := 11) (q := 7) hC uX5_removeCut_5 rfl (iM5 hj0) rfl (by decide) kX5_removeCut_f47 rfl dX5_removeCut_4 rfl ?_
    refine V_iconst (q := 8) hC dX5_removeCut_7 rfl ?_
    refine V_isub (q := 9) hC dX5_removeCut_8 rfl ?_
    refine V_icmp_ge (tgt := 74) (q := 12) hC h2 (Rg_wr _) dX5_removeCut_9 (by decide) rfl (fun c1 => ?_) (fun c1 => ?_)
    · replace hf := (if_pos c1).symm.trans hf
      refine V_aload_n (k := 0) (q := 75) hC 0 rfl dX5_removeCut_74 rfl ?_
      refine V_dup (q := 76) hC rfl dX5_removeCut_75 rfl ?_
      refine V_getf (T := TX5) (k := 11) (q := 79) hC uX5_removeCut_5 rfl (iM5 hj0) rfl (by decide) kX5_removeCut_f47 rfl dX5_removeCut_76 rfl ?_
      refine V_iconst (q := 80) hC dX5_removeCut_79 rfl ?_
      refine V_isub (q := 81) hC dX5_removeCut_80 rfl ?_
      obtain ⟨σ2, e3, hf⟩ := sq_ex hf
      have hs4 : RgS σ2 := by rw [e3]; exact RgS_hup hs (Rg_wr _)
      refine V_putf (T := TX5) (k := 11) (ty := .int) (q := 84) hC uX5_removeCut_5 rfl tyX5 tyX5_ok nmX5 (iM5 hj0) rfl (pf_5_11 _ _ _ _ rfl) (by decide) kX5_removeCut_f47 rfl (by decide +kernel) rfl rfl (Nat.le_of_ble_eq_true rfl) e3 dX5_removeCut_81 rfl ?_
      exact V_vret hC hr hlk (re_2 hf) hs4 dX5_removeCut_84
    · replace hf := (if_neg c1).symm.trans hf
      refine V_aload_n (k := 0) (q := 13) hC 0 rfl dX5_removeCut_12 rfl ?_
      refine V_getf (T := TX5) (k := 3) (q := 16) hC uX5_removeCut_5 rfl (iM5 hj0) rfl (by decide) kX5_removeCut_f21 rfl dX5_removeCut_13 rfl ?_
      refine V_iload_n (k := 2) (q := 17) hC 1 rfl dX5_removeCut_16 rfl ?_
      refine V_aload_n (k := 0) (q := 18) hC 0 rfl dX5_removeCut_17 rfl ?_
      refine V_getf (T := TX5) (k := 3) (q := 21) hC uX5_removeCut_5 rfl (iM5 hj0) rfl (by decide) kX5_removeCut_f21 rfl dX5_removeCut_18 rfl ?_
      refine V_iload_n (k := 2) (q := 22) hC 1 rfl dX5_removeCut_21 rfl ?_
      refine V_iconst (q := 23) hC dX5_removeCut_22 rfl ?_
      refine V_iadd (q := 24) hC dX5_removeCut_23 rfl ?_
      obtain ⟨g5, hf⟩ := gd_some hf
      refine V_iald (n := 8) (q := 25) hC (iM16 hj0) rfl g5 (Rg_wr _) dX5_removeCut_24 rfl ?_
      obtain ⟨g6, hf⟩ := gd_some hf
      obtain ⟨σ7, e8, hf⟩ := sq_ex hf
      have hs9 : RgS σ7 := by rw [e8]; exact RgS_hup hs (hs _ _ _)
      refine V_iast (n := 8) (q := 26) hC (iM16 hj0) rfl g6 h2 e8 dX5_removeCut_25 rfl ?_
      refine V_aload_n (k := 0) (q := 27) hC 0 rfl dX5_removeCut_26 rfl ?_
      refine V_getf (T := TX5) (k := 4) (q := 30) hC uX5_removeCut_5 rfl (iM5 hj0) rfl (by decide) kX5_removeCut_f24 rfl dX5_removeCut_27 rfl ?_
      refine V_iload_n (k := 2) (q := 31) hC 1 rfl dX5_removeCut_30 rfl ?_
      refine V_aload_n (k := 0) (q := 32) hC 0 rfl dX5_removeCut_31 rfl ?_
      refine V_getf (T := TX5) (k := 4) (q := 35) hC uX5_removeCut_5 rfl (iM5 hj0) rfl (by decide) kX5_removeCut_f24 rfl dX5_removeCut_32 rfl ?_
      refine V_iload_n (k := 2) (q := 36) hC 1 rfl dX5_removeCut_35 rfl ?_
      refine V_iconst (q := 37) hC dX5_removeCut_36 rfl ?_
      refine V_iadd (q := 38) hC dX5_removeCut_37 rfl ?_
      obtain ⟨g10, hf⟩ := gd_some hf
      refine V_iald (n := 8) (q := 39) hC (iM17 hj0) rfl g10 (Rg_wr _) dX5_removeCut_38 rfl ?_
      obtain ⟨g11, hf⟩ := gd_some hf
      obtain ⟨σ12, e13, hf⟩ := sq_ex hf
      have hs14 : RgS σ12 := by rw [e13]; exact RgS_hup hs9 (hs9 _ _ _)
      refine V_iast (n := 8) (q := 40) hC (iM17 hj0) rfl g11 h2 e13 dX5_removeCut_39 rfl ?_
      refine V_aload_n (k := 0) (q := 41) hC 0 rfl dX5_removeCut_40 rfl ?_
      refine V_getf (T := TX5) (k := 5) (q := 44) hC uX5_removeCut_5 rfl (iM5 hj0) rfl (by decide) kX5_removeCut_f27 rfl dX5_removeCut_41 rfl ?_
      refine V_iload_n (k := 2) (q := 45) hC 1 rfl dX5_removeCut_44 rfl ?_
      refine V_aload_n (k := 0) (q := 46) hC 0 rfl dX5_removeCut_45 rfl ?_
      refine V_getf (T := TX5) (k := 5) (q := 49) hC uX5_removeCut_5 rfl (iM5 hj0) rfl (by decide) kX5_removeCut_f27 rfl dX5_removeCut_46 rfl ?_
      refine V_iload_n (k := 2) (q := 50) hC 1 rfl dX5_removeCut_49 rfl ?_
      refine V_iconst (q := 51) hC dX5_removeCut_50 rfl ?_
      refine V_iadd (q := 52) hC dX5_removeCut_51 rfl ?_
      obtain ⟨g15, hf⟩ := gd_some hf
      refine V_iald (n := 8) (q := 53) hC (iM18 hj0) rfl g15 (Rg_wr _) dX5_removeCut_52 rfl ?_
      obtain ⟨g16, hf⟩ := gd_some hf
      obtain ⟨σ17, e18, hf⟩ := sq_ex hf
      have hs19 : RgS σ17 := by rw [e18]; exact RgS_hup hs14 (hs14 _ _ _)
      refine V_iast (n := 8) (q := 54) hC (iM18 hj0) rfl g16 h2 e18 dX5_removeCut_53 rfl ?_
      refine V_aload_n (k := 0) (q := 55) hC 0 rfl dX5_removeCut_54 rfl ?_
      refine V_getf (T := TX5) (k := 6) (q := 58) hC uX5_removeCut_5 rfl (iM5 hj0) rfl (by decide) kX5_removeCut_f30 rfl dX5_removeCut_55 rfl ?_
      refine V_iload_n (k := 2) (q := 59) hC 1 rfl dX5_removeCut_58 rfl ?_
      refine V_aload_n (k := 0) (q := 60) hC 0 rfl dX5_removeCut_59 rfl ?_
      refine V_getf (T := TX5) (k := 6) (q := 63) hC uX5_removeCut_5 rfl (iM5 hj0) rfl (by decide) kX5_removeCut_f30 rfl dX5_removeCut_60 rfl ?_
      refine V_iload_n (k := 2) (q := 64) hC 1 rfl dX5_removeCut_63 rfl ?_
      refine V_iconst (q := 65) hC dX5_removeCut_64 rfl ?_
      refine V_iadd (q := 66) hC dX5_removeCut_65 rfl ?_
      obtain ⟨g20, hf⟩ := gd_some hf
      refine V_iald (n := 8) (q := 67) hC (iM19 hj0) rfl g20 (Rg_wr _) dX5_removeCut_66 rfl ?_
      obtain ⟨g21, hf⟩ := gd_some hf
      obtain ⟨σ22, e23, hf⟩ := sq_ex hf
      have hs24 : RgS σ22 := by rw [e23]; exact RgS_hup hs19 (hs19 _ _ _)
      refine V_iast (n := 8) (q := 68) hC (iM19 hj0) rfl g21 h2 e23 dX5_removeCut_67 rfl ?_
      refine V_iinc (i := 2) (lv' := [(0, rf G 5 j0), (2, iv (wr (v2 + 1)))]) (q := 71) hC 1 rfl [1, 0] (by decide) rfl dX5_removeCut_68 rfl ?_
      refine V_goto (tgt := 2) hC dX5_removeCut_71 (by decide) ?_
      refine V_lsub [0, 1] rfl ?_
      exact ih hs24 (Rg_wr _) hf
set_option maxHeartbeats 4000000 in
set_option maxRecDepth 100000 in
theorem sX5_removeCut (l : Launch) {G : GT} (hG : GI G) {j0 : Nat} {v1 : Int} (hj0 : j0 < 28) (h1 : Rg v1) {σ : Hp} (hs : RgS σ) {r0 : Int × Hp} (hf : fX5_removeCut σ j0 v1 = some r0) : Ctv l G yX5_removeCut wsX5_removeCut rmX5_removeCut [rf G 5 j0, iv v1] σ r0.2 := by
  unfold fX5_removeCut at hf
  refine Ctv_start (lv := [(0, rf G 5 j0), (1, iv v1)]) (ret := none) (by decide +kernel) rfl hG (Nat.le_of_ble_eq_true rfl) rfl (fun p e s m args below meth c hC hr hlk => ?_)
  refine V_iload_n (k := 1) (q := 1) hC 1 rfl dX5_removeCut_0 rfl ?_
  refine V_istore_n (k := 2) (i := 2) (lv' := [(0, rf G 5 j0), (1, iv v1), (2, iv v1)]) (q := 2) hC [1, 2, 0] rfl (by decide) rfl dX5_removeCut_1 rfl ?_
  refine V_lsub [0, 2] rfl ?_
  exact (tlX5_removeCut_2 hG hC hr hlk hj0 FU) hs h1 hf
/-! X6_isBelow -/
abbrev rmX6_isBelow : Room := { frames := 0, cells := 0, slots := 0, locals := 0 }
set_option maxHeartbeats 4000000 in
set_option maxRecDepth 100000 in
theorem sX6_isBelow (l : Launch) {G : GT} (hG : GI G) {v0 : Int} {v1 : Int} (h0 : Rg v0) (h1 : Rg v1) {σ : Hp} (hs : RgS σ) : Cti l G yX6_isBelow wsX6_isBelow rmX6_isBelow [iv v0, iv v1] σ (fX6_isBelow v0 v1) σ := by
  obtain ⟨x0, hf⟩ : ∃ x, fX6_isBelow v0 v1 = x := ⟨_, rfl⟩
  rw [hf]
  unfold fX6_isBelow at hf
  refine Cti_start (lv := [(0, iv v0), (1, iv v1)]) (ret := (some .boolean)) (by decide +kernel) rfl hG (Nat.le_of_ble_eq_true rfl) rfl (fun p e s m args below meth c hC hr hlk => ?_)
  refine V_iload_n (k := 0) (q := 1) hC 0 rfl dX6_isBelow_0 rfl ?_
  refine V_if_lt (tgt := 13) (q := 4) hC h0 dX6_isBelow_1 (by decide) rfl (fun c1 => ?_) (fun c1 => ?_)
  · replace hf := (if_pos c1).symm.trans hf
    refine V_iconst (q := 14) hC dX6_isBelow_13 rfl ?_
    exact V_zret hC hr hlk (Or.inl rfl) hf rfl hs dX6_isBelow_14
  · replace hf := (if_neg c1).symm.trans hf
    refine V_iload_n (k := 0) (q := 5) hC 0 rfl dX6_isBelow_4 rfl ?_
    refine V_iload_n (k := 1) (q := 6) hC 1 rfl dX6_isBelow_5 rfl ?_
    refine V_icmp_ge (tgt := 13) (q := 9) hC h0 h1 dX6_isBelow_6 (by decide) rfl (fun c2 => ?_) (fun c2 => ?_)
    · replace hf := (if_pos c2).symm.trans hf
      refine V_iconst (q := 14) hC dX6_isBelow_13 rfl ?_
      exact V_zret hC hr hlk (Or.inl rfl) hf rfl hs dX6_isBelow_14
    · replace hf := (if_neg c2).symm.trans hf
      refine V_iconst (q := 10) hC dX6_isBelow_9 rfl ?_
      refine V_goto (tgt := 14) hC dX6_isBelow_10 (by decide) ?_
      exact V_zret hC hr hlk (Or.inr rfl) hf rfl hs dX6_isBelow_14
/-! X5_hasTree -/
theorem kX5_hasTree_f44 : Cond.fieldLink RX5 44 "BarkNames$Wood" "treeCount" "I" ∈ wsX5_hasTree := by decide +kernel
theorem uX5_hasTree_5 : ∀ w ∈ u_ws RX5 TX5 12, w ∈ wsX5_hasTree := by decide +kernel
theorem kX5_hasTree_iX6 : Cond.initialized RX6 ∈ wsX5_hasTree := by decide +kernel
theorem kX5_hasTree_sX6_isBelow : Cond.static yX6_isBelow ∈ wsX5_hasTree := by decide +kernel
abbrev rmX5_hasTree : Room := { frames := 1, cells := 0, slots := 0, locals := 21 }
set_option maxHeartbeats 4000000 in
set_option maxRecDepth 100000 in
theorem sX5_hasTree (l : Launch) {G : GT} (hG : GI G) {j0 : Nat} {v1 : Int} (hj0 : j0 < 28) (h1 : Rg v1) {σ : Hp} (hs : RgS σ) : Cti l G yX5_hasTree wsX5_hasTree rmX5_hasTree [rf G 5 j0, iv v1] σ (fX5_hasTree σ j0 v1) σ := by
  obtain ⟨x0, hf⟩ : ∃ x, fX5_hasTree σ j0 v1 = x := ⟨_, rfl⟩
  rw [hf]
  unfold fX5_hasTree at hf
  refine Cti_start (lv := [(0, rf G 5 j0), (1, iv v1)]) (ret := (some .boolean)) (by decide +kernel) rfl hG (Nat.le_of_ble_eq_true rfl) rfl (fun p e s m args below meth c hC hr hlk => ?_)
  refine V_iload_n (k := 1) (q := 1) hC 1 rfl dX5_hasTree_0 rfl ?_
  refine V_aload_n (k := 0) (q := 2) hC 0 rfl dX5_hasTree_1 rfl ?_
  refine V_getf (T := TX5) (k := 10) (q := 5) hC uX5_hasTree_5 rfl (iM5 hj0) rfl (by decide) kX5_hasTree_f44 rfl dX5_hasTree_2 rfl ?_
  refine V_cni (st := []) (q := 8) hC (sX6_isBelow l hG h1 (hs _ _ _) hs) ⟨va_cnB 2 hC.2.2.2.2.1 gX5_hasTree_X6_isBelow_n56 rfl rfl rfl (hC.2.2.2.2.2.1.2.1 _ (List.mem_of_getElem? (i := 6) rfl)) (hC.2.2.2.2.1 _ kX5_hasTree_iX6) (by decide +kernel) ⟨Nat.le_of_ble_eq_true rfl, Nat.le_of_ble_eq_true rfl⟩, hC.2.2.2.2.1 _ kX5_hasTree_sX6_isBelow, trivial⟩ rfl rfl (Nat.le_of_ble_eq_true rfl) dX5_hasTree_5 rfl ⟨Nat.zero_le _, Nat.zero_le _⟩ (fun hr1 _ => ?_)
  exact V_zret hC hr hlk (zX6_isBelow _ _) hf rfl hs dX5_hasTree_8
/-! X5_hasCut -/
theorem kX5_hasCut_f47 : Cond.fieldLink RX5 47 "BarkNames$Wood" "cutCount" "I" ∈ wsX5_hasCut := by decide +kernel
theorem uX5_hasCut_5 : ∀ w ∈ u_ws RX5 TX5 12, w ∈ wsX5_hasCut := by decide +kernel
theorem kX5_hasCut_iX6 : Cond.initialized RX6 ∈ wsX5_hasCut := by decide +kernel
theorem kX5_hasCut_sX6_isBelow : Cond.static yX6_isBelow ∈ wsX5_hasCut := by decide +kernel
abbrev rmX5_hasCut : Room := { frames := 1, cells := 0, slots := 0, locals := 21 }
set_option maxHeartbeats 4000000 in
set_option maxRecDepth 100000 in
theorem sX5_hasCut (l : Launch) {G : GT} (hG : GI G) {j0 : Nat} {v1 : Int} (hj0 : j0 < 28) (h1 : Rg v1) {σ : Hp} (hs : RgS σ) : Cti l G yX5_hasCut wsX5_hasCut rmX5_hasCut [rf G 5 j0, iv v1] σ (fX5_hasCut σ j0 v1) σ := by
  obtain ⟨x0, hf⟩ : ∃ x, fX5_hasCut σ j0 v1 = x := ⟨_, rfl⟩
  rw [hf]
  unfold fX5_hasCut at hf
  refine Cti_start (lv := [(0, rf G 5 j0), (1, iv v1)]) (ret := (some .boolean)) (by decide +kernel) rfl hG (Nat.le_of_ble_eq_true rfl) rfl (fun p e s m args below meth c hC hr hlk => ?_)
  refine V_iload_n (k := 1) (q := 1) hC 1 rfl dX5_hasCut_0 rfl ?_
  refine V_aload_n (k := 0) (q := 2) hC 0 rfl dX5_hasCut_1 rfl ?_
  refine V_getf (T := TX5) (k := 11) (q := 5) hC uX5_hasCut_5 rfl (iM5 hj0) rfl (by decide) kX5_hasCut_f47 rfl dX5_hasCut_2 rfl ?_
  refine V_cni (st := []) (q := 8) hC (sX6_isBelow l hG h1 (hs _ _ _) hs) ⟨va_cnB 2 hC.2.2.2.2.1 gX5_hasCut_X6_isBelow_n56 rfl rfl rfl (hC.2.2.2.2.2.1.2.1 _ (List.mem_of_getElem? (i := 6) rfl)) (hC.2.2.2.2.1 _ kX5_hasCut_iX6) (by decide +kernel) ⟨Nat.le_of_ble_eq_true rfl, Nat.le_of_ble_eq_true rfl⟩, hC.2.2.2.2.1 _ kX5_hasCut_sX6_isBelow, trivial⟩ rfl rfl (Nat.le_of_ble_eq_true rfl) dX5_hasCut_5 rfl ⟨Nat.zero_le _, Nat.zero_le _⟩ (fun hr1 _ => ?_)
  exact V_zret hC hr hlk (zX6_isBelow _ _) hf rfl hs dX5_hasCut_8
/-! X5_growthByKind -/
theorem kX5_growthByKind_f18 : Cond.fieldLink RX5 18 "BarkNames$Wood" "sunOf" "[I" ∈ wsX5_growthByKind := by decide +kernel
theorem uX5_growthByKind_5 : ∀ w ∈ u_ws RX5 TX5 12, w ∈ wsX5_growthByKind := by decide +kernel
theorem kX5_growthByKind_f9 : Cond.fieldLink RX5 9 "BarkNames$Wood" "kindOf" "[I" ∈ wsX5_growthByKind := by decide +kernel
theorem kX5_growthByKind_f41 : Cond.fieldLink RX5 41 "BarkNames$Wood" "year" "I" ∈ wsX5_growthByKind := by decide +kernel
abbrev rmX5_growthByKind : Room := { frames := 0, cells := 0, slots := 0, locals := 0 }
set_option maxHeartbeats 4000000 in
set_option maxRecDepth 100000 in
theorem sX5_growthByKind (l : Launch) {G : GT} (hG : GI G) {j0 : Nat} {v1 : Int} (hj0 : j0 < 28) (h1 : Rg v1) {σ : Hp} (hs : RgS σ) {r0 : Int × Hp} (hf : fX5_growthByKind σ j0 v1 = some r0) : Cti l G yX5_growthByKind wsX5_growthByKind rmX5_growthByKind [rf G 5 j0, iv v1] σ r0.1 r0.2 := by
  unfold fX5_growthByKind at hf
  refine Cti_start (lv := [(0, rf G 5 j0), (1, iv v1)]) (ret := (some .int)) (by decide +kernel) rfl hG (Nat.le_of_ble_eq_true rfl) rfl (fun p e s m args below meth c hC hr hlk => ?_)
  refine V_aload_n (k := 0) (q := 1) hC 0 rfl dX5_growthByKind_0 rfl ?_
  refine V_getf (T := TX5) (k := 2) (q := 4) hC uX5_growthByKind_5 rfl (iM5 hj0) rfl (by decide) kX5_growthByKind_f18 rfl dX5_growthByKind_1 rfl ?_
  refine V_iload_n (k := 1) (q := 5) hC 1 rfl dX5_growthByKind_4 rfl ?_
  obtain ⟨g1, hf⟩ := gd_some hf
  refine V_iald (n := 4) (q := 6) hC (iM15 hj0) rfl g1 h1 dX5_growthByKind_5 rfl ?_
  refine V_istore_n (k := 2) (i := 2) (lv' := [(0, rf G 5 j0), (1, iv v1), (2, iv (σ 15 j0 v1.toNat))]) (q := 7) hC [1, 2, 0] rfl (by decide) rfl dX5_growthByKind_6 rfl ?_
  refine V_iconst (q := 8) hC dX5_growthByKind_7 rfl ?_
  refine V_iload_n (k := 2) (q := 9) hC 2 rfl dX5_growthByKind_8 rfl ?_
  refine V_iconst (q := 10) hC dX5_growthByKind_9 rfl ?_
  refine V_idiv (q := 11) hC (hs _ _ _) (Rg_c rfl) (by decide) dX5_growthByKind_10 rfl ?_
  refine V_iadd (q := 12) hC dX5_growthByKind_11 rfl ?_
  refine V_istore_n (k := 3) (i := 3) (lv' := [(0, rf G 5 j0), (1, iv v1), (2, iv (σ 15 j0 v1.toNat)), (3, iv (wr (1 + (qdiv (σ 15 j0 v1.toNat) 3))))]) (q := 13) hC [1, 2, 3, 0] rfl (by decide) rfl dX5_growthByKind_12 rfl ?_
  refine V_aload_n (k := 0) (q := 14) hC 0 rfl dX5_growthByKind_13 rfl ?_
  refine V_getf (T := TX5) (k := 0) (q := 17) hC uX5_growthByKind_5 rfl (iM5 hj0) rfl (by decide) kX5_growthByKind_f9 rfl dX5_growthByKind_14 rfl ?_
  refine V_iload_n (k := 1) (q := 18) hC 1 rfl dX5_growthByKind_17 rfl ?_
  obtain ⟨g2, hf⟩ := gd_some hf
  refine V_iald (n := 4) (q := 19) hC (iM13 hj0) rfl g2 h1 dX5_growthByKind_18 rfl ?_
  by_cases c3 : σ 13 j0 v1.toNat = 1
  · replace hf := (if_pos c3).symm.trans hf
    refine V_tabIn (tgt := 48) hC (hs _ _ _) dX5_growthByKind_19 (by omega) (by omega) (by rw [c3]; rfl) (by decide) ?_
    refine V_iload_n (k := 3) (q := 49) hC 3 rfl dX5_growthByKind_48 rfl ?_
    exact V_iret hC hr hlk (re_1 hf) (re_2 hf) (Rg_wr _) hs dX5_growthByKind_49
  · replace hf := (if_neg c3).symm.trans hf
    by_cases c4 : σ 13 j0 v1.toNat = 2
    · replace hf := (if_pos c4).symm.trans hf
      refine V_tabIn (tgt := 50) hC (hs _ _ _) dX5_growthByKind_19 (by omega) (by omega) (by rw [c4]; rfl) (by decide) ?_
      refine V_iload_n (k := 3) (q := 51) hC 3 rfl dX5_growthByKind_50 rfl ?_
      refine V_iconst (q := 52) hC dX5_growthByKind_51 rfl ?_
      refine V_idiv (q := 53) hC (Rg_wr _) (Rg_c rfl) (by decide) dX5_growthByKind_52 rfl ?_
      exact V_iret hC hr hlk (re_1 hf) (re_2 hf) (Rg_qdiv _ _) hs dX5_growthByKind_53
    · replace hf := (if_neg c4).symm.trans hf
      by_cases c5 : σ 13 j0 v1.toNat = 3
      · replace hf := (if_pos c5).symm.trans hf
        refine V_tabIn (tgt := 54) hC (hs _ _ _) dX5_growthByKind_19 (by omega) (by omega) (by rw [c5]; rfl) (by decide) ?_
        refine V_aload_n (k := 0) (q := 55) hC 0 rfl dX5_growthByKind_54 rfl ?_
        refine V_getf (T := TX5) (k := 9) (q := 58) hC uX5_growthByKind_5 rfl (iM5 hj0) rfl (by decide) kX5_growthByKind_f41 rfl dX5_growthByKind_55 rfl ?_
        refine V_iconst (q := 59) hC dX5_growthByKind_58 rfl ?_
        refine V_irem (q := 60) hC (hs _ _ _) (Rg_c rfl) (by decide) dX5_growthByKind_59 rfl ?_
        refine V_if_ne (tgt := 69) (q := 63) hC (Rg_qrem _ _) dX5_growthByKind_60 (by decide) rfl (fun c6 => ?_) (fun c6 => ?_)
        · replace hf := (if_neg c6).symm.trans hf
          refine V_iload_n (k := 3) (q := 70) hC 3 rfl dX5_growthByKind_69 rfl ?_
          exact V_iret hC hr hlk (re_1 hf) (re_2 hf) (Rg_wr _) hs dX5_growthByKind_70
        · replace hf := (if_pos c6).symm.trans hf
          refine V_iload_n (k := 3) (q := 64) hC 3 rfl dX5_growthByKind_63 rfl ?_
          refine V_iconst (q := 65) hC dX5_growthByKind_64 rfl ?_
          refine V_iadd (q := 66) hC dX5_growthByKind_65 rfl ?_
          refine V_goto (tgt := 70) hC dX5_growthByKind_66 (by decide) ?_
          exact V_iret hC hr hlk (re_1 hf) (re_2 hf) (Rg_wr _) hs dX5_growthByKind_70
      · replace hf := (if_neg c5).symm.trans hf
        by_cases c7 : σ 13 j0 v1.toNat = 4
        · replace hf := (if_pos c7).symm.trans hf
          refine V_tabIn (tgt := 71) hC (hs _ _ _) dX5_growthByKind_19 (by omega) (by omega) (by rw [c7]; rfl) (by decide) ?_
          refine V_iload_n (k := 2) (q := 72) hC 2 rfl dX5_growthByKind_71 rfl ?_
          exact V_iret hC hr hlk (re_1 hf) (re_2 hf) (hs _ _ _) hs dX5_growthByKind_72
        · replace hf := (if_neg c7).symm.trans hf
          refine V_tabOut (tgt := 73) hC (hs _ _ _) dX5_growthByKind_19 (by omega) (by decide) ?_
          refine V_iconst (q := 74) hC dX5_growthByKind_73 rfl ?_
          exact V_iret hC hr hlk (re_1 hf) (re_2 hf) (Rg_c rfl) hs dX5_growthByKind_74
