/-! X7_depthIn -/
theorem kX7_depthIn_f25 : Cond.fieldLink RX7 25 "BarkNamesModel" "now" "[I" ∈ wsX7_depthIn := by decide +kernel
theorem uX7_depthIn_7 : ∀ w ∈ u_ws RX7 TX7 22, w ∈ wsX7_depthIn := by decide +kernel
abbrev rmX7_depthIn : Room := { frames := 2, cells := 0, slots := 0, locals := 46 }
set_option maxHeartbeats 4000000 in
set_option maxRecDepth 100000 in
theorem tlX7_depthIn_24 {p : Program} {l : Launch} {e : Env} {s : State} {m : MethodId} {args : Array Value} {below : List Frame} {meth : Method} {c : Code} {G : GT} (hG : GI G) (hC : CX p s m args c cX7_depthIn 9 RX7 wsX7_depthIn G (AA G)) (hr : meth.sig.returnType = (some .int)) (hlk : meth.locks = false) {r0 : Int × Hp} : ∀ n : Nat, (∀ {σ : Hp} (hs : RgS σ) {v3 : Int} {v4 : Int} {v5 : Int} {v6 : Int} {v7 : Int} (h3 : Rg v3) (h4 : Rg v4) (h5 : Rg v5) (h6 : Rg v6) (h7 : Rg v7) (hf : lX7_depthIn_24 n σ v3 v4 v5 v6 v7 = some r0), VV p l e (headSpec wsX7_depthIn rmX7_depthIn).room s m args below meth c (MQ below (QI G r0.1 r0.2) args s 0 0 (AA G)) G (AA G) 0 0 9 σ 24 [(0, rf G 7 0), (3, iv v3), (4, iv v4), (5, iv v5), (6, iv v6), (7, iv v7)] []) := by
  intro n
  induction n with
  | zero =>
    exact by intro σ hs v3 v4 v5 v6 v7 h3 h4 h5 h6 h7 hf; exact absurd (show (none : Option (Int × Hp)) = some r0 from hf) (fun z => by cases z)
  | succ n ih =>
    intro σ hs v3 v4 v5 v6 v7 h3 h4 h5 h6 h7 hf
    replace hf := (lX7_depthIn_24_e0 n σ v3 v4 v5 v6 v7).symm.trans hf
    refine V_iload (k := 7) (q := 26) hC 5 rfl dX7_depthIn_24 rfl ?_
    refine V_iload_n (k := 3) (q := 27) hC 1 rfl dX7_depthIn_26 rfl ?_
    refine V_icmp_ge (tgt := 114) (q := 30) hC h7 h3 dX7_depthIn_27 (by decide) rfl (fun c2 => ?_) (fun c2 => ?_)
    · replace hf := (if_pos c2).symm.trans hf
      refine V_iload (k := 5) (q := 116) hC 3 rfl dX7_depthIn_114 rfl ?_
      exact V_iret hC hr hlk (re_1 hf) (re_2 hf) h5 hs dX7_depthIn_116
    · replace hf := (if_neg c2).symm.trans hf
      refine V_iload (k := 5) (q := 32) hC 3 rfl dX7_depthIn_30 rfl ?_
      refine V_if_le (tgt := 114) (q := 35) hC h5 dX7_depthIn_32 (by decide) rfl (fun c3 => ?_) (fun c3 => ?_)
      · replace hf := (if_pos c3).symm.trans hf
        refine V_iload (k := 5) (q := 116) hC 3 rfl dX7_depthIn_114 rfl ?_
        exact V_iret hC hr hlk (re_1 hf) (re_2 hf) h5 hs dX7_depthIn_116
      · replace hf := (if_neg c3).symm.trans hf
        refine V_aload_n (k := 0) (q := 36) hC 0 rfl dX7_depthIn_35 rfl ?_
        refine V_getf (T := TX7) (k := 13) (q := 39) hC uX7_depthIn_7 rfl iD7 rfl (by decide) kX7_depthIn_f25 rfl dX7_depthIn_36 rfl ?_
        refine V_iload (k := 4) (q := 41) hC 2 rfl dX7_depthIn_39 rfl ?_
        obtain ⟨g4, hf⟩ := gd_some hf
        refine V_iald (n := 48) (q := 42) hC iD27 rfl g4 h4 dX7_depthIn_41 rfl ?_
        refine V_aload_n (k := 0) (q := 43) hC 0 rfl dX7_depthIn_42 rfl ?_
        refine V_getf (T := TX7) (k := 13) (q := 46) hC uX7_depthIn_7 rfl iD7 rfl (by decide) kX7_depthIn_f25 rfl dX7_depthIn_43 rfl ?_
        refine V_iload (k := 4) (q := 48) hC 2 rfl dX7_depthIn_46 rfl ?_
        refine V_iconst (q := 49) hC dX7_depthIn_48 rfl ?_
        refine V_iadd (q := 50) hC dX7_depthIn_49 rfl ?_
        obtain ⟨g5, hf⟩ := gd_some hf
        refine V_iald (n := 48) (q := 51) hC iD27 rfl g5 (Rg_wr _) dX7_depthIn_50 rfl ?_
        refine V_iload (k := 6) (q := 53) hC 4 rfl dX7_depthIn_51 rfl ?_
        refine V_aload_n (k := 0) (q := 54) hC 0 rfl dX7_depthIn_53 rfl ?_
        refine V_getf (T := TX7) (k := 13) (q := 57) hC uX7_depthIn_7 rfl iD7 rfl (by decide) kX7_depthIn_f25 rfl dX7_depthIn_54 rfl ?_
        refine V_iconst (q := 58) hC dX7_depthIn_57 rfl ?_
        refine V_iald (n := 48) (q := 59) hC iD27 rfl ⟨by decide, by decide⟩ (Rg_c rfl) dX7_depthIn_58 rfl ?_
        refine V_iload (k := 7) (q := 61) hC 5 rfl dX7_depthIn_59 rfl ?_
        refine V_iadd (q := 62) hC dX7_depthIn_61 rfl ?_
        refine V_csi (st := []) (q := 65) hC (sX7_growth l hG (hs _ _ _) (hs _ _ _) h6 (Rg_wr _) hs) (va_cwS 4 hC.2.2.2.2.1 gX7_depthIn_X7_growth rfl rfl rfl (by decide +kernel) ⟨Nat.le_of_ble_eq_true rfl, Nat.le_of_ble_eq_true rfl⟩) rfl rfl (Nat.le_of_ble_eq_true rfl) dX7_depthIn_62 rfl ⟨Nat.zero_le _, Nat.zero_le _⟩ (fun hr6 _ => ?_)
        refine V_istore (i := 8) (lv' := [(0, rf G 7 0), (3, iv v3), (4, iv v4), (5, iv v5), (6, iv v6), (7, iv v7), (8, iv (fX7_growth (σ 27 0 v4.toNat) (σ 27 0 (wr (v4 + 2)).toNat) v6 (wr ((σ 27 0 1) + v7))))]) (q := 67) hC [1, 2, 3, 4, 5, 6, 0] (by decide) rfl dX7_depthIn_65 rfl ?_
        refine V_iload (k := 5) (q := 69) hC 3 rfl dX7_depthIn_67 rfl ?_
        refine V_aload_n (k := 0) (q := 70) hC 0 rfl dX7_depthIn_69 rfl ?_
        refine V_getf (T := TX7) (k := 13) (q := 73) hC uX7_depthIn_7 rfl iD7 rfl (by decide) kX7_depthIn_f25 rfl dX7_depthIn_70 rfl ?_
        refine V_iload (k := 4) (q := 75) hC 2 rfl dX7_depthIn_73 rfl ?_
        obtain ⟨g7, hf⟩ := gd_some hf
        refine V_iald (n := 48) (q := 76) hC iD27 rfl g7 h4 dX7_depthIn_75 rfl ?_
        refine V_iload (k := 8) (q := 78) hC 6 rfl dX7_depthIn_76 rfl ?_
        refine V_aload_n (k := 0) (q := 79) hC 0 rfl dX7_depthIn_78 rfl ?_
        refine V_getf (T := TX7) (k := 13) (q := 82) hC uX7_depthIn_7 rfl iD7 rfl (by decide) kX7_depthIn_f25 rfl dX7_depthIn_79 rfl ?_
        refine V_iconst (q := 83) hC dX7_depthIn_82 rfl ?_
        refine V_iald (n := 48) (q := 84) hC iD27 rfl ⟨by decide, by decide⟩ (Rg_c rfl) dX7_depthIn_83 rfl ?_
        refine V_iload (k := 7) (q := 86) hC 5 rfl dX7_depthIn_84 rfl ?_
        refine V_iadd (q := 87) hC dX7_depthIn_86 rfl ?_
        refine V_csi (st := [iv v5]) (q := 90) hC (sX7_heals l hG (hs _ _ _) hr6 (Rg_wr _) hs) (va_cwS 3 hC.2.2.2.2.1 gX7_depthIn_X7_heals rfl rfl rfl (by decide +kernel) ⟨Nat.le_of_ble_eq_true rfl, Nat.le_of_ble_eq_true rfl⟩) rfl rfl (Nat.le_of_ble_eq_true rfl) dX7_depthIn_87 rfl ⟨Nat.zero_le _, Nat.zero_le _⟩ (fun hr8 _ => ?_)
        refine V_if_eq (tgt := 97) (q := 93) hC hr8 dX7_depthIn_90 (by decide) rfl (fun c9 => ?_) (fun c9 => ?_)
        · replace hf := (if_pos c9).symm.trans hf
          refine V_iconst (q := 98) hC dX7_depthIn_97 rfl ?_
          refine V_isub (q := 99) hC dX7_depthIn_98 rfl ?_
          refine V_istore (i := 5) (lv' := [(0, rf G 7 0), (3, iv v3), (4, iv v4), (5, iv (wr (v5 - 0))), (6, iv v6), (7, iv v7), (8, iv (fX7_growth (σ 27 0 v4.toNat) (σ 27 0 (wr (v4 + 2)).toNat) v6 (wr ((σ 27 0 1) + v7))))]) (q := 101) hC [1, 2, 3, 0, 4, 5, 6] (by decide) rfl dX7_depthIn_99 rfl ?_
          refine V_iload (k := 6) (q := 103) hC 4 rfl dX7_depthIn_101 rfl ?_
          refine V_iload (k := 8) (q := 105) hC 6 rfl dX7_depthIn_103 rfl ?_
          refine V_iadd (q := 106) hC dX7_depthIn_105 rfl ?_
          refine V_istore (i := 6) (lv' := [(0, rf G 7 0), (3, iv v3), (4, iv v4), (5, iv (wr (v5 - 0))), (6, iv (wr (v6 + (fX7_growth (σ 27 0 v4.toNat) (σ 27 0 (wr (v4 + 2)).toNat) v6 (wr ((σ 27 0 1) + v7)))))), (7, iv v7), (8, iv (fX7_growth (σ 27 0 v4.toNat) (σ 27 0 (wr (v4 + 2)).toNat) v6 (wr ((σ 27 0 1) + v7))))]) (q := 108) hC [1, 2, 3, 4, 0, 5, 6] (by decide) rfl dX7_depthIn_106 rfl ?_
          refine V_iinc (i := 7) (lv' := [(0, rf G 7 0), (3, iv v3), (4, iv v4), (5, iv (wr (v5 - 0))), (6, iv (wr (v6 + (fX7_growth (σ 27 0 v4.toNat) (σ 27 0 (wr (v4 + 2)).toNat) v6 (wr ((σ 27 0 1) + v7)))))), (7, iv (wr (v7 + 1))), (8, iv (fX7_growth (σ 27 0 v4.toNat) (σ 27 0 (wr (v4 + 2)).toNat) v6 (wr ((σ 27 0 1) + v7))))]) (q := 111) hC 5 rfl [1, 2, 3, 4, 5, 0, 6] (by decide) rfl dX7_depthIn_108 rfl ?_
          refine V_goto (tgt := 24) hC dX7_depthIn_111 (by decide) ?_
          refine V_lsub [0, 1, 2, 3, 4, 5] rfl ?_
          exact ih hs h3 h4 (Rg_wr _) (Rg_wr _) (Rg_wr _) hf
        · replace hf := (if_neg c9).symm.trans hf
          refine V_iconst (q := 94) hC dX7_depthIn_93 rfl ?_
          refine V_goto (tgt := 98) hC dX7_depthIn_94 (by decide) ?_
          refine V_isub (q := 99) hC dX7_depthIn_98 rfl ?_
          refine V_istore (i := 5) (lv' := [(0, rf G 7 0), (3, iv v3), (4, iv v4), (5, iv (wr (v5 - 1))), (6, iv v6), (7, iv v7), (8, iv (fX7_growth (σ 27 0 v4.toNat) (σ 27 0 (wr (v4 + 2)).toNat) v6 (wr ((σ 27 0 1) + v7))))]) (q := 101) hC [1, 2, 3, 0, 4, 5, 6] (by decide) rfl dX7_depthIn_99 rfl ?_
          refine V_iload (k := 6) (q := 103) hC 4 rfl dX7_depthIn_101 rfl ?_
          refine V_iload (k := 8) (q := 105) hC 6 rfl dX7_depthIn_103 rfl ?_
          refine V_iadd (q := 106) hC dX7_depthIn_105 rfl ?_
          refine V_istore (i := 6) (lv' := [(0, rf G 7 0), (3, iv v3), (4, iv v4), (5, iv (wr (v5 - 1))), (6, iv (wr (v6 + (fX7_growth (σ 27 0 v4.toNat) (σ 27 0 (wr (v4 + 2)).toNat) v6 (wr ((σ 27 0 1) + v7)))))), (7, iv v7), (8, iv (fX7_growth (σ 27 0 v4.toNat) (σ 27 0 (wr (v4 + 2)).toNat) v6 (wr ((σ 27 0 1) + v7))))]) (q := 108) hC [1, 2, 3, 4, 0, 5, 6] (by decide) rfl dX7_depthIn_106 rfl ?_
          refine V_iinc (i := 7) (lv' := [(0, rf G 7 0), (3, iv v3), (4, iv v4), (5, iv (wr (v5 - 1))), (6, iv (wr (v6 + (fX7_growth (σ 27 0 v4.toNat) (σ 27 0 (wr (v4 + 2)).toNat) v6 (wr ((σ 27 0 1) + v7)))))), (7, iv (wr (v7 + 1))), (8, iv (fX7_growth (σ 27 0 v4.toNat) (σ 27 0 (wr (v4 + 2)).toNat) v6 (wr ((σ 27 0 1) + v7))))]) (q := 111) hC 5 rfl [1, 2, 3, 4, 5, 0, 6] (by decide) rfl dX7_depthIn_108 rfl ?_
          refine V_goto (tgt := 24) hC dX7_depthIn_111 (by decide) ?_
          refine V_lsub [0, 1, 2, 3, 4, 5] rfl ?_
          exact ih hs h3 h4 (Rg_wr _) (Rg_wr _) (Rg_wr _) hf
set_option maxHeartbeats 4000000 in
set_option maxRecDepth 100000 in
theorem sX7_depthIn (l : Launch) {G : GT} (hG : GI G) {v1 : Int} {v2 : Int} {v3 : Int} (h1 : Rg v1) (h2 : Rg v2) (h3 : Rg v3) {σ : Hp} (hs : RgS σ) {r0 : Int × Hp} (hf : fX7_depthIn σ v1 v2 v3 = some r0) : Cti l G yX7_depthIn wsX7_depthIn rmX7_depthIn [rf G 7 0, iv v1, iv v2, iv v3] σ r0.1 r0.2 := by
  unfold fX7_depthIn at hf
  refine Cti_start (lv := [(0, rf G 7 0), (1, iv v1), (2, iv v2), (3, iv v3)]) (ret := (some .int)) (by decide +kernel) rfl hG (Nat.le_of_ble_eq_true rfl) rfl (fun p e s m args below meth c hC hr hlk => ?_)
  refine V_iconst (q := 1) hC dX7_depthIn_0 rfl ?_
  refine V_iconst (q := 2) hC dX7_depthIn_1 rfl ?_
  refine V_iload_n (k := 1) (q := 3) hC 1 rfl dX7_depthIn_2 rfl ?_
  refine V_imul (q := 4) hC dX7_depthIn_3 rfl ?_
  refine V_iadd (q := 5) hC dX7_depthIn_4 rfl ?_
  refine V_istore (i := 4) (lv' := [(0, rf G 7 0), (1, iv v1), (2, iv v2), (3, iv v3), (4, iv (wr (4 + (wr (3 * v1)))))]) (q := 7) hC [1, 2, 3, 4, 0] (by decide) rfl dX7_depthIn_5 rfl ?_
  refine V_iload_n (k := 2) (q := 8) hC 2 rfl dX7_depthIn_7 rfl ?_
  refine V_istore (i := 5) (lv' := [(0, rf G 7 0), (1, iv v1), (2, iv v2), (3, iv v3), (4, iv (wr (4 + (wr (3 * v1))))), (5, iv v2)]) (q := 10) hC [1, 2, 3, 4, 5, 0] (by decide) rfl dX7_depthIn_8 rfl ?_
  refine V_aload_n (k := 0) (q := 11) hC 0 rfl dX7_depthIn_10 rfl ?_
  refine V_getf (T := TX7) (k := 13) (q := 14) hC uX7_depthIn_7 rfl iD7 rfl (by decide) kX7_depthIn_f25 rfl dX7_depthIn_11 rfl ?_
  refine V_iload (k := 4) (q := 16) hC 4 rfl dX7_depthIn_14 rfl ?_
  refine V_iconst (q := 17) hC dX7_depthIn_16 rfl ?_
  refine V_iadd (q := 18) hC dX7_depthIn_17 rfl ?_
  obtain ⟨g1, hf⟩ := gd_some hf
  refine V_iald (n := 48) (q := 19) hC iD27 rfl g1 (Rg_wr _) dX7_depthIn_18 rfl ?_
  refine V_istore (i := 6) (lv' := [(0, rf G 7 0), (1, iv v1), (2, iv v2), (3, iv v3), (4, iv (wr (4 + (wr (3 * v1))))), (5, iv v2), (6, iv (σ 27 0 (wr ((wr (4 + (wr (3 * v1)))) + 1)).toNat))]) (q := 21) hC [1, 2, 3, 4, 5, 6, 0] (by decide) rfl dX7_depthIn_19 rfl ?_
  refine V_iconst (q := 22) hC dX7_depthIn_21 rfl ?_
  refine V_istore (i := 7) (lv' := [(0, rf G 7 0), (1, iv v1), (2, iv v2), (3, iv v3), (4, iv (wr (4 + (wr (3 * v1))))), (5, iv v2), (6, iv (σ 27 0 (wr ((wr (4 + (wr (3 * v1)))) + 1)).toNat)), (7, iv 0)]) (q := 24) hC [1, 2, 3, 4, 5, 6, 7, 0] (by decide) rfl dX7_depthIn_22 rfl ?_
  refine V_lsub [0, 3, 4, 5, 6, 7] rfl ?_
  exact (tlX7_depthIn_24 hG hC hr hlk FU) hs h3 (Rg_wr _) h2 (hs _ _ _) (Rg_c rfl) hf
/-! X7_holds -/
theorem kX7_holds_c61 : Cond.constant RX7 61 (-1000001) ∈ wsX7_holds := by decide +kernel
theorem kX7_holds_c178 : Cond.constant RX7 178 (-1000002) ∈ wsX7_holds := by decide +kernel
theorem kX7_holds_f25 : Cond.fieldLink RX7 25 "BarkNamesModel" "now" "[I" ∈ wsX7_holds := by decide +kernel
theorem uX7_holds_7 : ∀ w ∈ u_ws RX7 TX7 22, w ∈ wsX7_holds := by decide +kernel
theorem kX7_holds_f41 : Cond.fieldLink RX7 41 "BarkNamesModel" "tried" "[I" ∈ wsX7_holds := by decide +kernel
abbrev rmX7_holds : Room := { frames := 4, cells := 0, slots := 0, locals := 94 }
set_option maxHeartbeats 4000000 in
set_option maxRecDepth 100000 in
theorem tlX7_holds_51 {p : Program} {l : Launch} {e : Env} {s : State} {m : MethodId} {args : Array Value} {below : List Frame} {meth : Method} {c : Code} {G : GT} (hG : GI G) (hC : CX p s m args c cX7_holds 7 RX7 wsX7_holds G (AA G)) (hr : meth.sig.returnType = (some .int)) (hlk : meth.locks = false) {r0 : Int × Hp} : ∀ n : Nat, (∀ {σ : Hp} (hs : RgS σ) {v1 : Int} {v2 : Int} {v3 : Int} {v4 : Int} {v5 : Int} (h1 : Rg v1) (h2 : Rg v2) (h3 : Rg v3) (h4 : Rg v4) (h5 : Rg v5) (hf : lX7_holds_51 n 0 σ v1 v2 v3 v4 v5 0 = some r0), VV p l e (headSpec wsX7_holds rmX7_holds).room s m args below meth c (MQ below (QI G r0.1 r0.2) args s 0 0 (AA G)) G (AA G) 0 0 7 σ 51 [(0, rf G 7 0), (1, iv v1), (2, iv v2), (3, iv v3), (4, iv v4), (5, iv v5)] []) ∧ (∀ {σ : Hp} (hs : RgS σ) {v1 : Int} {v2 : Int} {v3 : Int} {v4 : Int} {v5 : Int} {w0 : Int} (h1 : Rg v1) (h2 : Rg v2) (h3 : Rg v3) (h4 : Rg v4) (h5 : Rg v5) (hw0 : Rg w0) (hf : lX7_holds_51 n 1 σ v1 v2 v3 v4 v5 w0 = some r0), VV p l e (headSpec wsX7_holds rmX7_holds).room s m args below meth c (MQ below (QI G r0.1 r0.2) args s 0 0 (AA G)) G (AA G) 0 0 7 σ 94 [(0, rf G 7 0), (1, iv v1), (2, iv v2), (3, iv v3), (4, iv v4), (5, iv v5)] [iv w0]) := by
  intro n
  induction n with
  | zero =>
    exact ⟨by intro σ hs v1 v2 v3 v4 v5 h1 h2 h3 h4 h5 hf; exact absurd (show (none : Option (Int × Hp)) = some r0 from hf) (fun z => by cases z), by intro σ hs v1 v2 v3 v4 v5 w0 h1 h2 h3 h4 h5 hw0 hf; exact absurd (show (none : Option (Int × Hp)) = some r0 from hf) (fun z => by cases z)⟩
  | succ n ih =>
    refine ⟨?_, ?_⟩
    · intro σ hs v1 v2 v3 v4 v5 h1 h2 h3 h4 h5 hf
      replace hf := (lX7_holds_51_e0 n σ v1 v2 v3 v4 v5 0).symm.trans hf
      refine V_iload (k := 5) (q := 53) hC 5 rfl dX7_holds_51 rfl ?_
      refine V_aload_n (k := 0) (q := 54) hC 0 rfl dX7_holds_53 rfl ?_
      refine V_getf (T := TX7) (k := 13) (q := 57) hC uX7_holds_7 rfl iD7 rfl (by decide) kX7_holds_f25 rfl dX7_holds_54 rfl ?_
      refine V_iconst (q := 58) hC dX7_holds_57 rfl ?_
      refine V_iald (n := 48) (q := 59) hC iD27 rfl ⟨by decide, by decide⟩ (Rg_c rfl) dX7_holds_58 rfl ?_
      refine V_icmp_ge (tgt := 131) (q := 62) hC h5 (hs _ _ _) dX7_holds_59 (by decide) rfl (fun c14 => ?_) (fun c14 => ?_)
      · replace hf := (if_pos c14).symm.trans hf
        refine V_iload (k := 4) (q := 133) hC 4 rfl dX7_holds_131 rfl ?_
        exact V_iret hC hr hlk (re_1 hf) (re_2 hf) h4 hs dX7_holds_133
      · replace hf := (if_neg c14).symm.trans hf
        refine V_iload_n (k := 1) (q := 63) hC 1 rfl dX7_holds_62 rfl ?_
        refine V_aload_n (k := 0) (q := 64) hC 0 rfl dX7_holds_63 rfl ?_
        refine V_getf (T := TX7) (k := 19) (q := 67) hC uX7_holds_7 rfl iD7 rfl (by decide) kX7_holds_f41 rfl dX7_holds_64 rfl ?_
        refine V_iconst (q := 68) hC dX7_holds_67 rfl ?_
        refine V_iconst (q := 69) hC dX7_holds_68 rfl ?_
        refine V_iload (k := 5) (q := 71) hC 5 rfl dX7_holds_69 rfl ?_
        refine V_imul (q := 72) hC dX7_holds_71 rfl ?_
        refine V_iadd (q := 73) hC dX7_holds_72 rfl ?_
        refine V_iconst (q := 74) hC dX7_holds_73 rfl ?_
        refine V_iadd (q := 75) hC dX7_holds_74 rfl ?_
        obtain ⟨g15, hf⟩ := gd_some hf
        refine V_iald (n := 48) (q := 76) hC iD32 rfl g15 (Rg_wr _) dX7_holds_75 rfl ?_
        refine V_imul (q := 77) hC dX7_holds_76 rfl ?_
        refine V_bipush (q := 79) hC (by decide) dX7_holds_77 rfl ?_
        refine V_idiv (q := 80) hC (Rg_wr _) (Rg_c rfl) (by decide) dX7_holds_79 rfl ?_
        refine V_aload_n (k := 0) (q := 81) hC 0 rfl dX7_holds_80 rfl ?_
        refine V_getf (T := TX7) (k := 13) (q := 84) hC uX7_holds_7 rfl iD7 rfl (by decide) kX7_holds_f25 rfl dX7_holds_81 rfl ?_
        refine V_iconst (q := 85) hC dX7_holds_84 rfl ?_
        refine V_iald (n := 48) (q := 86) hC iD27 rfl ⟨by decide, by decide⟩ (Rg_c rfl) dX7_holds_85 rfl ?_
        refine V_icmp_gt (tgt := 93) (q := 89) hC (Rg_qdiv _ _) (hs _ _ _) dX7_holds_86 (by decide) rfl (fun c16 => ?_) (fun c16 => ?_)
        · replace hf := (if_pos c16).symm.trans hf
          refine V_iconst (q := 94) hC dX7_holds_93 rfl ?_
          refine V_lsub [0, 1, 2, 3, 4, 5] rfl ?_
          exact ih.2 hs h1 h2 h3 h4 h5 (Rg_c rfl) hf
        · replace hf := (if_neg c16).symm.trans hf
          refine V_iconst (q := 90) hC dX7_holds_89 rfl ?_
          refine V_goto (tgt := 94) hC dX7_holds_90 (by decide) ?_
          refine V_lsub [0, 1, 2, 3, 4, 5] rfl ?_
          exact ih.2 hs h1 h2 h3 h4 h5 (Rg_c rfl) hf
    · intro σ hs v1 v2 v3 v4 v5 w0 h1 h2 h3 h4 h5 hw0 hf
      replace hf := (lX7_holds_51_e1 n σ v1 v2 v3 v4 v5 w0).symm.trans hf
      refine V_istore (i := 6) (lv' := [(0, rf G 7 0), (1, iv v1), (2, iv v2), (3, iv v3), (4, iv v4), (5, iv v5), (6, iv w0)]) (q := 96) hC [1, 2, 3, 4, 5, 6, 0] (by decide) rfl dX7_holds_94 rfl ?_
      refine V_iload (k := 4) (q := 98) hC 4 rfl dX7_holds_96 rfl ?_
      refine V_iload (k := 6) (q := 100) hC 6 rfl dX7_holds_98 rfl ?_
      refine V_if_eq (tgt := 121) (q := 103) hC hw0 dX7_holds_100 (by decide) rfl (fun c17 => ?_) (fun c17 => ?_)
      · replace hf := (if_pos c17).symm.trans hf
        refine V_iconst (q := 122) hC dX7_holds_121 rfl ?_
        refine V_ior (q := 123) hC dX7_holds_122 rfl ?_
        refine V_istore (i := 4) (lv' := [(0, rf G 7 0), (1, iv v1), (2, iv v2), (3, iv v3), (4, iv (qor v4 0)), (5, iv v5), (6, iv w0)]) (q := 125) hC [1, 2, 3, 4, 0, 5, 6] (by decide) rfl dX7_holds_123 rfl ?_
        refine V_iinc (i := 5) (lv' := [(0, rf G 7 0), (1, iv v1), (2, iv v2), (3, iv v3), (4, iv (qor v4 0)), (5, iv (wr (v5 + 1))), (6, iv w0)]) (q := 128) hC 5 rfl [1, 2, 3, 4, 5, 0, 6] (by decide) rfl dX7_holds_125 rfl ?_
        refine V_goto (tgt := 51) hC dX7_holds_128 (by decide) ?_
        refine V_lsub [0, 1, 2, 3, 4, 5] rfl ?_
        exact ih.1 hs h1 h2 h3 (Rg_qor _ _) (Rg_wr _) hf
      · replace hf := (if_neg c17).symm.trans hf
        refine V_aload_n (k := 0) (q := 104) hC 0 rfl dX7_holds_103 rfl ?_
        refine V_iload (k := 5) (q := 106) hC 5 rfl dX7_holds_104 rfl ?_
        refine V_iload_n (k := 2) (q := 107) hC 2 rfl dX7_holds_106 rfl ?_
        refine V_iload_n (k := 3) (q := 108) hC 3 rfl dX7_holds_107 rfl ?_
        obtain ⟨r18, σ19, hc20, hf⟩ := cl_some hf
        refine V_cvi (st := [iv v4]) (q := 111) (x0 := r18) (σ0 := σ19) hC (sX7_depthIn l hG h5 h2 h3 hs hc20) (cwV 3 hC.2.2.2.2.1 gX7_holds_X7_depthIn rfl rfl rfl (by decide +kernel) ⟨Nat.le_of_ble_eq_true rfl, Nat.le_of_ble_eq_true rfl⟩) ⟨_, rfl, rfl⟩ iD7 (fun _ => ⟨_, rfl⟩) rfl rfl (Nat.le_of_ble_eq_true rfl) dX7_holds_108 rfl ⟨Nat.zero_le _, Nat.zero_le _⟩ (fun hr21 hs22 => ?_)
        refine V_if_le (tgt := 121) (q := 114) hC hr21 dX7_holds_111 (by decide) rfl (fun c23 => ?_) (fun c23 => ?_)
        · replace hf := (if_pos c23).symm.trans hf
          refine V_iconst (q := 122) hC dX7_holds_121 rfl ?_
          refine V_ior (q := 123) hC dX7_holds_122 rfl ?_
          refine V_istore (i := 4) (lv' := [(0, rf G 7 0), (1, iv v1), (2, iv v2), (3, iv v3), (4, iv (qor v4 0)), (5, iv v5), (6, iv w0)]) (q := 125) hC [1, 2, 3, 4, 0, 5, 6] (by decide) rfl dX7_holds_123 rfl ?_
          refine V_iinc (i := 5) (lv' := [(0, rf G 7 0), (1, iv v1), (2, iv v2), (3, iv v3), (4, iv (qor v4 0)), (5, iv (wr (v5 + 1))), (6, iv w0)]) (q := 128) hC 5 rfl [1, 2, 3, 4, 5, 0, 6] (by decide) rfl dX7_holds_125 rfl ?_
          refine V_goto (tgt := 51) hC dX7_holds_128 (by decide) ?_
          refine V_lsub [0, 1, 2, 3, 4, 5] rfl ?_
          exact ih.1 hs22 h1 h2 h3 (Rg_qor _ _) (Rg_wr _) hf
        · replace hf := (if_neg c23).symm.trans hf
          refine V_iconst (q := 115) hC dX7_holds_114 rfl ?_
          refine V_iload (k := 5) (q := 117) hC 5 rfl dX7_holds_115 rfl ?_
          refine V_ishl (q := 118) hC dX7_holds_117 rfl ?_
          refine V_goto (tgt := 122) hC dX7_holds_118 (by decide) ?_
          refine V_ior (q := 123) hC dX7_holds_122 rfl ?_
          refine V_istore (i := 4) (lv' := [(0, rf G 7 0), (1, iv v1), (2, iv v2), (3, iv v3), (4, iv (qor v4 (qshl 1 v5))), (5, iv v5), (6, iv w0)]) (q := 125) hC [1, 2, 3, 4, 0, 5, 6] (by decide) rfl dX7_holds_123 rfl ?_
          refine V_iinc (i := 5) (lv' := [(0, rf G 7 0), (1, iv v1), (2, iv v2), (3, iv v3), (4, iv (qor v4 (qshl 1 v5))), (5, iv (wr (v5 + 1))), (6, iv w0)]) (q := 128) hC 5 rfl [1, 2, 3, 4, 5, 0, 6] (by decide) rfl dX7_holds_125 rfl ?_
          refine V_goto (tgt := 51) hC dX7_holds_128 (by decide) ?_
          refine V_lsub [0, 1, 2, 3, 4, 5] rfl ?_
          exact ih.1 hs22 h1 h2 h3 (Rg_qor _ _) (Rg_wr _) hf
set_option maxHeartbeats 4000000 in
set_option maxRecDepth 100000 in
theorem sX7_holds (l : Launch) {G : GT} (hG : GI G) {v1 : Int} {v2 : Int} {v3 : Int} (h1 : Rg v1) (h2 : Rg v2) (h3 : Rg v3) {σ : Hp} (hs : RgS σ) {r0 : Int × Hp} (hf : fX7_holds σ v1 v2 v3 = some r0) : Cti l G yX7_holds wsX7_holds rmX7_holds [rf G 7 0, iv v1, iv v2, iv v3] σ r0.1 r0.2 := by
  unfold fX7_holds at hf
  refine Cti_start (lv := [(0, rf G 7 0), (1, iv v1), (2, iv v2), (3, iv v3)]) (ret := (some .int)) (by decide +kernel) rfl hG (Nat.le_of_ble_eq_true rfl) rfl (fun p e s m args below meth c hC hr hlk => ?_)
  refine V_aload_n (k := 0) (q := 1) hC 0 rfl dX7_holds_0 rfl ?_
  refine V_cvi (st := []) (q := 4) hC (sX7_isWood l hG  hs) (cwV 0 hC.2.2.2.2.1 gX7_holds_X7_isWood rfl rfl rfl (by decide +kernel) ⟨Nat.le_of_ble_eq_true rfl, Nat.le_of_ble_eq_true rfl⟩) ⟨_, rfl, rfl⟩ iD7 (fun _ => ⟨_, rfl⟩) rfl rfl (Nat.le_of_ble_eq_true rfl) dX7_holds_1 rfl ⟨Nat.zero_le _, Nat.zero_le _⟩ (fun hr1 _ => ?_)
  refine V_if_ne (tgt := 10) (q := 7) hC hr1 dX7_holds_4 (by decide) rfl (fun c2 => ?_) (fun c2 => ?_)
  · replace hf := (if_neg c2).symm.trans hf
    refine V_iload_n (k := 1) (q := 11) hC 1 rfl dX7_holds_10 rfl ?_
    refine V_iconst (q := 12) hC dX7_holds_11 rfl ?_
    refine V_bipush (q := 14) hC (by decide) dX7_holds_12 rfl ?_
    refine V_csi (st := []) (q := 17) hC (sX7_in l hG h1 (Rg_c rfl) (Rg_c rfl) hs) (va_cwS 3 hC.2.2.2.2.1 gX7_holds_X7_in rfl rfl rfl (by decide +kernel) ⟨Nat.le_of_ble_eq_true rfl, Nat.le_of_ble_eq_true rfl⟩) rfl rfl (Nat.le_of_ble_eq_true rfl) dX7_holds_14 rfl ⟨Nat.zero_le _, Nat.zero_le _⟩ (fun hr3 _ => ?_)
    refine V_if_eq (tgt := 37) (q := 20) hC hr3 dX7_holds_17 (by decide) rfl (fun c4 => ?_) (fun c4 => ?_)
    · replace hf := (if_pos c4).symm.trans hf
      refine V_ldc (q := 39) (n := (-1000001)) hC (by decide) kX7_holds_c61 dX7_holds_37 rfl ?_
      exact V_iret hC hr hlk (re_1 hf) (re_2 hf) (Rg_c rfl) hs dX7_holds_39
    · replace hf := (if_neg c4).symm.trans hf
      refine V_iload_n (k := 2) (q := 21) hC 2 rfl dX7_holds_20 rfl ?_
      refine V_iconst (q := 22) hC dX7_holds_21 rfl ?_
      refine V_bipush (q := 24) hC (by decide) dX7_holds_22 rfl ?_
      refine V_csi (st := []) (q := 27) hC (sX7_in l hG h2 (Rg_c rfl) (Rg_c rfl) hs) (va_cwS 3 hC.2.2.2.2.1 gX7_holds_X7_in rfl rfl rfl (by decide +kernel) ⟨Nat.le_of_ble_eq_true rfl, Nat.le_of_ble_eq_true rfl⟩) rfl rfl (Nat.le_of_ble_eq_true rfl) dX7_holds_24 rfl ⟨Nat.zero_le _, Nat.zero_le _⟩ (fun hr5 _ => ?_)
      refine V_if_eq (tgt := 37) (q := 30) hC hr5 dX7_holds_27 (by decide) rfl (fun c6 => ?_) (fun c6 => ?_)
      · replace hf := (if_pos c6).symm.trans hf
        refine V_ldc (q := 39) (n := (-1000001)) hC (by decide) kX7_holds_c61 dX7_holds_37 rfl ?_
        exact V_iret hC hr hlk (re_1 hf) (re_2 hf) (Rg_c rfl) hs dX7_holds_39
      · replace hf := (if_neg c6).symm.trans hf
        refine V_iload_n (k := 3) (q := 31) hC 3 rfl dX7_holds_30 rfl ?_
        refine V_csi (st := []) (q := 34) hC (sX7_isFar l hG h3 hs) (va_cwS 1 hC.2.2.2.2.1 gX7_holds_X7_isFar rfl rfl rfl (by decide +kernel) ⟨Nat.le_of_ble_eq_true rfl, Nat.le_of_ble_eq_true rfl⟩) rfl rfl (Nat.le_of_ble_eq_true rfl) dX7_holds_31 rfl ⟨Nat.zero_le _, Nat.zero_le _⟩ (fun hr7 _ => ?_)
        refine V_if_ne (tgt := 40) (q := 37) hC hr7 dX7_holds_34 (by decide) rfl (fun c8 => ?_) (fun c8 => ?_)
        · replace hf := (if_neg c8).symm.trans hf
          refine V_aload_n (k := 0) (q := 41) hC 0 rfl dX7_holds_40 rfl ?_
          refine V_iload_n (k := 3) (q := 42) hC 3 rfl dX7_holds_41 rfl ?_
          obtain ⟨r9, σ10, hc11, hf⟩ := cl_some hf
          refine V_cvv (st := []) (q := 45) (σ0 := σ10) hC (sX7_tries l hG h3 hs hc11) (cwV 1 hC.2.2.2.2.1 gX7_holds_X7_tries rfl rfl rfl (by decide +kernel) ⟨Nat.le_of_ble_eq_true rfl, Nat.le_of_ble_eq_true rfl⟩) ⟨_, rfl, rfl⟩ iD7 (fun _ => ⟨_, rfl⟩) rfl rfl (Nat.le_of_ble_eq_true rfl) dX7_holds_42 rfl ⟨Nat.zero_le _, Nat.zero_le _⟩ (fun hs13 => ?_)
          refine V_iconst (q := 46) hC dX7_holds_45 rfl ?_
          refine V_istore (i := 4) (lv' := [(0, rf G 7 0), (1, iv v1), (2, iv v2), (3, iv v3), (4, iv 0)]) (q := 48) hC [1, 2, 3, 4, 0] (by decide) rfl dX7_holds_46 rfl ?_
          refine V_iconst (q := 49) hC dX7_holds_48 rfl ?_
          refine V_istore (i := 5) (lv' := [(0, rf G 7 0), (1, iv v1), (2, iv v2), (3, iv v3), (4, iv 0), (5, iv 0)]) (q := 51) hC [1, 2, 3, 4, 5, 0] (by decide) rfl dX7_holds_49 rfl ?_
          refine V_lsub [0, 1, 2, 3, 4, 5] rfl ?_
          exact (tlX7_holds_51 hG hC hr hlk FU).1 hs13 h1 h2 h3 (Rg_c rfl) (Rg_c rfl) hf
        · replace hf := (if_pos c8).symm.trans hf
          refine V_ldc (q := 39) (n := (-1000001)) hC (by decide) kX7_holds_c61 dX7_holds_37 rfl ?_
          exact V_iret hC hr hlk (re_1 hf) (re_2 hf) (Rg_c rfl) hs dX7_holds_39
  · replace hf := (if_pos c2).symm.trans hf
    refine V_ldc (q := 9) (n := (-1000002)) hC (by decide) kX7_holds_c178 dX7_holds_7 rfl ?_
    exact V_iret hC hr hlk (re_1 hf) (re_2 hf) (Rg_c rfl) hs dX7_holds_9
/-! X7_deep -/
theorem kX7_deep_c61 : Cond.constant RX7 61 (-1000001) ∈ wsX7_deep := by decide +kernel
theorem kX7_deep_c47 : Cond.constant RX7 47 (-1000000) ∈ wsX7_deep := by decide +kernel
abbrev rmX7_deep : Room := { frames := 3, cells := 0, slots := 0, locals := 74 }
set_option maxHeartbeats 4000000 in
set_option maxRecDepth 100000 in
theorem tlX7_deep_20 {p : Program} {l : Launch} {e : Env} {s : State} {m : MethodId} {args : Array Value} {below : List Frame} {meth : Method} {c : Code} {G : GT} (hG : GI G) (hC : CX p s m args c cX7_deep 4 RX7 wsX7_deep G (AA G)) (hr : meth.sig.returnType = (some .int)) (hlk : meth.locks = false) {r0 : Int × Hp} : ∀ n : Nat, (∀ {σ : Hp} (hs : RgS σ) {v1 : Int} {v2 : Int} {v3 : Int} (h1 : Rg v1) (h2 : Rg v2) (h3 : Rg v3) (hf : lX7_deep_20 n σ v1 v2 v3 = some r0), VV p l e (headSpec wsX7_deep rmX7_deep).room s m args below meth c (MQ below (QI G r0.1 r0.2) args s 0 0 (AA G)) G (AA G) 0 0 4 σ 20 [(0, rf G 7 0), (1, iv v1), (2, iv v2), (3, iv v3)] []) := by
  intro n
  induction n with
  | zero =>
    exact by intro σ hs v1 v2 v3 h1 h2 h3 hf; exact absurd (show (none : Option (Int × Hp)) = some r0 from hf) (fun z => by cases z)
  | succ n ih =>
    intro σ hs v1 v2 v3 h1 h2 h3 hf
    replace hf := (lX7_deep_20_e0 n σ v1 v2 v3).symm.trans hf
    refine V_iload_n (k := 3) (q := 21) hC 3 rfl dX7_deep_20 rfl ?_
    refine V_bipush (q := 23) hC (by decide) dX7_deep_21 rfl ?_
    refine V_icmp_ge (tgt := 44) (q := 26) hC h3 (Rg_c rfl) dX7_deep_23 (by decide) rfl (fun c5 => ?_) (fun c5 => ?_)
    · replace hf := (if_pos c5).symm.trans hf
      refine V_ldc (q := 46) (n := (-1000000)) hC (by decide) kX7_deep_c47 dX7_deep_44 rfl ?_
      exact V_iret hC hr hlk (re_1 hf) (re_2 hf) (Rg_c rfl) hs dX7_deep_46
    · replace hf := (if_neg c5).symm.trans hf
      refine V_aload_n (k := 0) (q := 27) hC 0 rfl dX7_deep_26 rfl ?_
      refine V_iload_n (k := 1) (q := 28) hC 1 rfl dX7_deep_27 rfl ?_
      refine V_iload_n (k := 3) (q := 29) hC 3 rfl dX7_deep_28 rfl ?_
      refine V_iload_n (k := 2) (q := 30) hC 2 rfl dX7_deep_29 rfl ?_
      obtain ⟨r6, σ7, hc8, hf⟩ := cl_some hf
      refine V_cvi (st := []) (q := 33) (x0 := r6) (σ0 := σ7) hC (sX7_depthIn l hG h1 h3 h2 hs hc8) (cwV 3 hC.2.2.2.2.1 gX7_deep_X7_depthIn rfl rfl rfl (by decide +kernel) ⟨Nat.le_of_ble_eq_true rfl, Nat.le_of_ble_eq_true rfl⟩) ⟨_, rfl, rfl⟩ iD7 (fun _ => ⟨_, rfl⟩) rfl rfl (Nat.le_of_ble_eq_true rfl) dX7_deep_30 rfl ⟨Nat.zero_le _, Nat.zero_le _⟩ (fun hr9 hs10 => ?_)
      refine V_if_le (tgt := 38) (q := 36) hC hr9 dX7_deep_33 (by decide) rfl (fun c11 => ?_) (fun c11 => ?_)
      · replace hf := (if_pos c11).symm.trans hf
        refine V_iinc (i := 3) (lv' := [(0, rf G 7 0), (1, iv v1), (2, iv v2), (3, iv (wr (v3 + 1)))]) (q := 41) hC 3 rfl [1, 2, 3, 0] (by decide) rfl dX7_deep_38 rfl ?_
        refine V_goto (tgt := 20) hC dX7_deep_41 (by decide) ?_
        refine V_lsub [0, 1, 2, 3] rfl ?_
        exact ih hs10 h1 h2 (Rg_wr _) hf
      · replace hf := (if_neg c11).symm.trans hf
        refine V_iload_n (k := 3) (q := 37) hC 3 rfl dX7_deep_36 rfl ?_
        exact V_iret hC hr hlk (re_1 hf) (re_2 hf) h3 hs10 dX7_deep_37
set_option maxHeartbeats 4000000 in
set_option maxRecDepth 100000 in
theorem sX7_deep (l : Launch) {G : GT} (hG : GI G) {v1 : Int} {v2 : Int} (h1 : Rg v1) (h2 : Rg v2) {σ : Hp} (hs : RgS σ) {r0 : Int × Hp} (hf : fX7_deep σ v1 v2 = some r0) : Cti l G yX7_deep wsX7_deep rmX7_deep [rf G 7 0, iv v1, iv v2] σ r0.1 r0.2 := by
  unfold fX7_deep at hf
  refine Cti_start (lv := [(0, rf G 7 0), (1, iv v1), (2, iv v2)]) (ret := (some .int)) (by decide +kernel) rfl hG (Nat.le_of_ble_eq_true rfl) rfl (fun p e s m args below meth c hC hr hlk => ?_)
  refine V_aload_n (k := 0) (q := 1) hC 0 rfl dX7_deep_0 rfl ?_
  refine V_iload_n (k := 1) (q := 2) hC 1 rfl dX7_deep_1 rfl ?_
  refine V_cvi (st := []) (q := 5) hC (sX7_isTree l hG h1 hs) (cwV 1 hC.2.2.2.2.1 gX7_deep_X7_isTree rfl rfl rfl (by decide +kernel) ⟨Nat.le_of_ble_eq_true rfl, Nat.le_of_ble_eq_true rfl⟩) ⟨_, rfl, rfl⟩ iD7 (fun _ => ⟨_, rfl⟩) rfl rfl (Nat.le_of_ble_eq_true rfl) dX7_deep_2 rfl ⟨Nat.zero_le _, Nat.zero_le _⟩ (fun hr1 _ => ?_)
  refine V_if_eq (tgt := 15) (q := 8) hC hr1 dX7_deep_5 (by decide) rfl (fun c2 => ?_) (fun c2 => ?_)
  · replace hf := (if_pos c2).symm.trans hf
    refine V_ldc (q := 17) (n := (-1000001)) hC (by decide) kX7_deep_c61 dX7_deep_15 rfl ?_
    exact V_iret hC hr hlk (re_1 hf) (re_2 hf) (Rg_c rfl) hs dX7_deep_17
  · replace hf := (if_neg c2).symm.trans hf
    refine V_iload_n (k := 2) (q := 9) hC 2 rfl dX7_deep_8 rfl ?_
    refine V_csi (st := []) (q := 12) hC (sX7_isFar l hG h2 hs) (va_cwS 1 hC.2.2.2.2.1 gX7_deep_X7_isFar rfl rfl rfl (by decide +kernel) ⟨Nat.le_of_ble_eq_true rfl, Nat.le_of_ble_eq_true rfl⟩) rfl rfl (Nat.le_of_ble_eq_true rfl) dX7_deep_9 rfl ⟨Nat.zero_le _, Nat.zero_le _⟩ (fun hr3 _ => ?_)
    refine V_if_ne (tgt := 18) (q := 15) hC hr3 dX7_deep_12 (by decide) rfl (fun c4 => ?_) (fun c4 => ?_)
    · replace hf := (if_neg c4).symm.trans hf
      refine V_iconst (q := 19) hC dX7_deep_18 rfl ?_
      refine V_istore_n (k := 3) (i := 3) (lv' := [(0, rf G 7 0), (1, iv v1), (2, iv v2), (3, iv 1)]) (q := 20) hC [1, 2, 3, 0] rfl (by decide) rfl dX7_deep_19 rfl ?_
      refine V_lsub [0, 1, 2, 3] rfl ?_
      exact (tlX7_deep_20 hG hC hr hlk FU) hs h1 h2 (Rg_c rfl) hf
    · replace hf := (if_pos c4).symm.trans hf
      refine V_ldc (q := 17) (n := (-1000001)) hC (by decide) kX7_deep_c61 dX7_deep_15 rfl ?_
      exact V_iret hC hr hlk (re_1 hf) (re_2 hf) (Rg_c rfl) hs dX7_deep_17
/-! X7_meet -/
theorem kX7_meet_c61 : Cond.constant RX7 61 (-1000001) ∈ wsX7_meet := by decide +kernel
theorem kX7_meet_f25 : Cond.fieldLink RX7 25 "BarkNamesModel" "now" "[I" ∈ wsX7_meet := by decide +kernel
theorem uX7_meet_7 : ∀ w ∈ u_ws RX7 TX7 22, w ∈ wsX7_meet := by decide +kernel
theorem kX7_meet_c47 : Cond.constant RX7 47 (-1000000) ∈ wsX7_meet := by decide +kernel
abbrev rmX7_meet : Room := { frames := 2, cells := 0, slots := 0, locals := 43 }
set_option maxHeartbeats 4000000 in
set_option maxRecDepth 100000 in
theorem tlX7_meet_39 {p : Program} {l : Launch} {e : Env} {s : State} {m : MethodId} {args : Array Value} {below : List Frame} {meth : Method} {c : Code} {G : GT} (hG : GI G) (hC : CX p s m args c cX7_meet 9 RX7 wsX7_meet G (AA G)) (hr : meth.sig.returnType = (some .int)) (hlk : meth.locks = false) {r0 : Int × Hp} : ∀ n : Nat, (∀ {σ : Hp} (hs : RgS σ) {v2 : Int} {v3 : Int} {v4 : Int} {v5 : Int} {v6 : Int} (h2 : Rg v2) (h3 : Rg v3) (h4 : Rg v4) (h5 : Rg v5) (h6 : Rg v6) (hf : lX7_meet_39 n 0 σ v2 v3 v4 v5 v6 0 0 0 = some r0), VV p l e (headSpec wsX7_meet rmX7_meet).room s m args below meth c (MQ below (QI G r0.1 r0.2) args s 0 0 (AA G)) G (AA G) 0 0 9 σ 39 [(0, rf G 7 0), (2, iv v2), (3, iv v3), (4, iv v4), (5, iv v5), (6, iv v6)] []) ∧ (∀ {σ : Hp} (hs : RgS σ) {v2 : Int} {v3 : Int} {v4 : Int} {v5 : Int} {v6 : Int} {v7 : Int} (h2 : Rg v2) (h3 : Rg v3) (h4 : Rg v4) (h5 : Rg v5) (h6 : Rg v6) (h7 : Rg v7) (hf : lX7_meet_39 n 1 σ v2 v3 v4 v5 v6 v7 0 0 = some r0), VV p l e (headSpec wsX7_meet rmX7_meet).room s m args below meth c (MQ below (QI G r0.1 r0.2) args s 0 0 (AA G)) G (AA G) 0 0 9 σ 56 [(0, rf G 7 0), (2, iv v2), (3, iv v3), (4, iv v4), (5, iv v5), (6, iv v6), (7, iv v7)] []) ∧ (∀ {σ : Hp} (hs : RgS σ) {v2 : Int} {v3 : Int} {v4 : Int} {v5 : Int} {v6 : Int} {v7 : Int} {w0 : Int} (h2 : Rg v2) (h3 : Rg v3) (h4 : Rg v4) (h5 : Rg v5) (h6 : Rg v6) (h7 : Rg v7) (hw0 : Rg w0) (hf : lX7_meet_39 n 2 σ v2 v3 v4 v5 v6 v7 w0 0 = some r0), VV p l e (headSpec wsX7_meet rmX7_meet).room s m args below meth c (MQ below (QI G r0.1 r0.2) args s 0 0 (AA G)) G (AA G) 0 0 9 σ 106 [(0, rf G 7 0), (2, iv v2), (3, iv v3), (4, iv v4), (5, iv v5), (6, iv v6), (7, iv v7)] [iv w0]) ∧ (∀ {σ : Hp} (hs : RgS σ) {v2 : Int} {v3 : Int} {v4 : Int} {v6 : Int} {v7 : Int} {v8 : Int} {w0 : Int} (h2 : Rg v2) (h3 : Rg v3) (h4 : Rg v4) (h6 : Rg v6) (h7 : Rg v7) (h8 : Rg v8) (hw0 : Rg w0) (hf : lX7_meet_39 n 3 σ v2 v3 v4 0 v6 v7 w0 v8 = some r0), VV p l e (headSpec wsX7_meet rmX7_meet).room s m args below meth c (MQ below (QI G r0.1 r0.2) args s 0 0 (AA G)) G (AA G) 0 0 9 σ 131 [(0, rf G 7 0), (2, iv v2), (3, iv v3), (4, iv v4), (6, iv v6), (7, iv v7), (8, iv v8)] [iv w0]) := by
  intro n
  induction n with
  | zero =>
    exact ⟨by intro σ hs v2 v3 v4 v5 v6 h2 h3 h4 h5 h6 hf; exact absurd (show (none : Option (Int × Hp)) = some r0 from hf) (fun z => by cases z), by intro σ hs v2 v3 v4 v5 v6 v7 h2 h3 h4 h5 h6 h7 hf; exact absurd (show (none : Option (Int × Hp)) = some r0 from hf) (fun z => by cases z), by intro σ hs v2 v3 v4 v5 v6 v7 w0 h2 h3 h4 h5 h6 h7 hw0 hf; exact absurd (show (none : Option (Int × Hp)) = some r0 from hf) (fun z => by cases z), by intro σ hs v2 v3 v4 v6 v7 v8 w0 h2 h3 h4 h6 h7 h8 hw0 hf; exact absurd (show (none : Option (Int × Hp)) = some r0 from hf) (fun z => by cases z)⟩
  | succ n ih =>
    refine ⟨?_, ?_, ?_, ?_⟩
    · intro σ hs v2 v3 v4 v5 v6 h2 h3 h4 h5 h6 hf
      replace hf := (lX7_meet_39_e0 n σ v2 v3 v4 v5 v6 0 0 0).symm.trans hf
      refine V_iload (k := 6) (q := 41) hC 5 rfl dX7_meet_39 rfl ?_
      refine V_aload_n (k := 0) (q := 42) hC 0 rfl dX7_meet_41 rfl ?_
      refine V_getf (T := TX7) (k := 13) (q := 45) hC uX7_meet_7 rfl iD7 rfl (by decide) kX7_meet_f25 rfl dX7_meet_42 rfl ?_
      refine V_iconst (q := 46) hC dX7_meet_45 rfl ?_
      refine V_iald (n := 48) (q := 47) hC iD27 rfl ⟨by decide, by decide⟩ (Rg_c rfl) dX7_meet_46 rfl ?_
      refine V_icmp_ge (tgt := 160) (q := 50) hC h6 (hs _ _ _) dX7_meet_47 (by decide) rfl (fun c10 => ?_) (fun c10 => ?_)
      · replace hf := (if_pos c10).symm.trans hf
        refine V_iload_n (k := 2) (q := 161) hC 1 rfl dX7_meet_160 rfl ?_
        refine V_if_ne (tgt := 169) (q := 164) hC h2 dX7_meet_161 (by decide) rfl (fun c11 => ?_) (fun c11 => ?_)
        · replace hf := (if_neg c11).symm.trans hf
          refine V_iload (k := 5) (q := 171) hC 4 rfl dX7_meet_169 rfl ?_
          exact V_iret hC hr hlk (re_1 hf) (re_2 hf) h5 hs dX7_meet_171
        · replace hf := (if_pos c11).symm.trans hf
          refine V_iload (k := 4) (q := 166) hC 3 rfl dX7_meet_164 rfl ?_
          refine V_goto (tgt := 171) hC dX7_meet_166 (by decide) ?_
          exact V_iret hC hr hlk (re_1 hf) (re_2 hf) h4 hs dX7_meet_171
      · replace hf := (if_neg c10).symm.trans hf
        refine V_iload (k := 6) (q := 52) hC 5 rfl dX7_meet_50 rfl ?_
        refine V_iconst (q := 53) hC dX7_meet_52 rfl ?_
        refine V_iadd (q := 54) hC dX7_meet_53 rfl ?_
        refine V_istore (i := 7) (lv' := [(0, rf G 7 0), (2, iv v2), (3, iv v3), (4, iv v4), (5, iv v5), (6, iv v6), (7, iv (wr (v6 + 1)))]) (q := 56) hC [1, 2, 3, 4, 5, 6, 0] (by decide) rfl dX7_meet_54 rfl ?_
        refine V_lsub [0, 1, 2, 3, 4, 5, 6] rfl ?_
        exact ih.2.1 hs h2 h3 h4 h5 h6 (Rg_wr _) hf
    · intro σ hs v2 v3 v4 v5 v6 v7 h2 h3 h4 h5 h6 h7 hf
      replace hf := (lX7_meet_39_e1 n σ v2 v3 v4 v5 v6 v7 0 0).symm.trans hf
      refine V_iload (k := 7) (q := 58) hC 6 rfl dX7_meet_56 rfl ?_
      refine V_aload_n (k := 0) (q := 59) hC 0 rfl dX7_meet_58 rfl ?_
      refine V_getf (T := TX7) (k := 13) (q := 62) hC uX7_meet_7 rfl iD7 rfl (by decide) kX7_meet_f25 rfl dX7_meet_59 rfl ?_
      refine V_iconst (q := 63) hC dX7_meet_62 rfl ?_
      refine V_iald (n := 48) (q := 64) hC iD27 rfl ⟨by decide, by decide⟩ (Rg_c rfl) dX7_meet_63 rfl ?_
      refine V_icmp_ge (tgt := 154) (q := 67) hC h7 (hs _ _ _) dX7_meet_64 (by decide) rfl (fun c12 => ?_) (fun c12 => ?_)
      · replace hf := (if_pos c12).symm.trans hf
        refine V_iinc (i := 6) (lv' := [(0, rf G 7 0), (2, iv v2), (3, iv v3), (4, iv v4), (5, iv v5), (6, iv (wr (v6 + 1))), (7, iv v7)]) (q := 157) hC 5 rfl [1, 2, 3, 4, 5, 0, 6] (by decide) rfl dX7_meet_154 rfl ?_
        refine V_goto (tgt := 39) hC dX7_meet_157 (by decide) ?_
        refine V_lsub [0, 1, 2, 3, 4, 5] rfl ?_
        exact ih.1 hs h2 h3 h4 h5 (Rg_wr _) hf
      · replace hf := (if_neg c12).symm.trans hf
        refine V_iload_n (k := 3) (q := 68) hC 2 rfl dX7_meet_67 rfl ?_
        refine V_iload (k := 6) (q := 70) hC 5 rfl dX7_meet_68 rfl ?_
        refine V_csi (st := []) (q := 73) hC (sX7_has l hG h3 h6 hs) (va_cwS 2 hC.2.2.2.2.1 gX7_meet_X7_has rfl rfl rfl (by decide +kernel) ⟨Nat.le_of_ble_eq_true rfl, Nat.le_of_ble_eq_true rfl⟩) rfl rfl (Nat.le_of_ble_eq_true rfl) dX7_meet_70 rfl ⟨Nat.zero_le _, Nat.zero_le _⟩ (fun hr13 _ => ?_)
        refine V_if_eq (tgt := 105) (q := 76) hC hr13 dX7_meet_73 (by decide) rfl (fun c14 => ?_) (fun c14 => ?_)
        · replace hf := (if_pos c14).symm.trans hf
          refine V_iconst (q := 106) hC dX7_meet_105 rfl ?_
          refine V_lsub [0, 1, 2, 3, 4, 5, 6] rfl ?_
          exact ih.2.2.1 hs h2 h3 h4 h5 h6 h7 (Rg_c rfl) hf
        · replace hf := (if_neg c14).symm.trans hf
          refine V_iload_n (k := 3) (q := 77) hC 2 rfl dX7_meet_76 rfl ?_
          refine V_iload (k := 7) (q := 79) hC 6 rfl dX7_meet_77 rfl ?_
          refine V_csi (st := []) (q := 82) hC (sX7_has l hG h3 h7 hs) (va_cwS 2 hC.2.2.2.2.1 gX7_meet_X7_has rfl rfl rfl (by decide +kernel) ⟨Nat.le_of_ble_eq_true rfl, Nat.le_of_ble_eq_true rfl⟩) rfl rfl (Nat.le_of_ble_eq_true rfl) dX7_meet_79 rfl ⟨Nat.zero_le _, Nat.zero_le _⟩ (fun hr15 _ => ?_)
          refine V_if_eq (tgt := 105) (q := 85) hC hr15 dX7_meet_82 (by decide) rfl (fun c16 => ?_) (fun c16 => ?_)
          · replace hf := (if_pos c16).symm.trans hf
            refine V_iconst (q := 106) hC dX7_meet_105 rfl ?_
            refine V_lsub [0, 1, 2, 3, 4, 5, 6] rfl ?_
            exact ih.2.2.1 hs h2 h3 h4 h5 h6 h7 (Rg_c rfl) hf
          · replace hf := (if_neg c16).symm.trans hf
            refine V_aload_n (k := 0) (q := 86) hC 0 rfl dX7_meet_85 rfl ?_
            refine V_getf (T := TX7) (k := 13) (q := 89) hC uX7_meet_7 rfl iD7 rfl (by decide) kX7_meet_f25 rfl dX7_meet_86 rfl ?_
            refine V_iload (k := 6) (q := 91) hC 5 rfl dX7_meet_89 rfl ?_
            refine V_iload (k := 7) (q := 93) hC 6 rfl dX7_meet_91 rfl ?_
            obtain ⟨r17, σ18, hc19, hf⟩ := cl_some hf
            refine V_csi (st := []) (q := 96) (x0 := r17) (σ0 := σ18) hC (sX7_between l hG iD27 h6 h7 hs hc19) (va_cwS 3 hC.2.2.2.2.1 gX7_meet_X7_between rfl rfl rfl (by decide +kernel) ⟨Nat.le_of_ble_eq_true rfl, Nat.le_of_ble_eq_true rfl⟩) rfl rfl (Nat.le_of_ble_eq_true rfl) dX7_meet_93 rfl ⟨Nat.zero_le _, Nat.zero_le _⟩ (fun hr20 hs21 => ?_)
            refine V_bipush (q := 98) hC (by decide) dX7_meet_96 rfl ?_
            refine V_icmp_le (tgt := 105) (q := 101) hC hr20 (Rg_c rfl) dX7_meet_98 (by decide) rfl (fun c22 => ?_) (fun c22 => ?_)
            · replace hf := (if_pos c22).symm.trans hf
              refine V_iconst (q := 106) hC dX7_meet_105 rfl ?_
              refine V_lsub [0, 1, 2, 3, 4, 5, 6] rfl ?_
              exact ih.2.2.1 hs21 h2 h3 h4 h5 h6 h7 (Rg_c rfl) hf
            · replace hf := (if_neg c22).symm.trans hf
              refine V_iconst (q := 102) hC dX7_meet_101 rfl ?_
              refine V_goto (tgt := 106) hC dX7_meet_102 (by decide) ?_
              refine V_lsub [0, 1, 2, 3, 4, 5, 6] rfl ?_
              exact ih.2.2.1 hs21 h2 h3 h4 h5 h6 h7 (Rg_c rfl) hf
    · intro σ hs v2 v3 v4 v5 v6 v7 w0 h2 h3 h4 h5 h6 h7 hw0 hf
      replace hf := (lX7_meet_39_e2 n σ v2 v3 v4 v5 v6 v7 w0 0).symm.trans hf
      refine V_istore (i := 8) (lv' := [(0, rf G 7 0), (2, iv v2), (3, iv v3), (4, iv v4), (5, iv v5), (6, iv v6), (7, iv v7), (8, iv w0)]) (q := 108) hC [1, 2, 3, 4, 5, 6, 7, 0] (by decide) rfl dX7_meet_106 rfl ?_
      refine V_iload (k := 8) (q := 110) hC 7 rfl dX7_meet_108 rfl ?_
      refine V_if_eq (tgt := 129) (q := 113) hC hw0 dX7_meet_110 (by decide) rfl (fun c23 => ?_) (fun c23 => ?_)
      · replace hf := (if_pos c23).symm.trans hf
        refine V_iload (k := 5) (q := 131) hC 4 rfl dX7_meet_129 rfl ?_
        refine V_lsub [0, 1, 2, 3, 5, 6, 7] rfl ?_
        exact ih.2.2.2 hs h2 h3 h4 h6 h7 hw0 h5 hf
      · replace hf := (if_neg c23).symm.trans hf
        refine V_iload (k := 4) (q := 115) hC 3 rfl dX7_meet_113 rfl ?_
        refine V_if_ne (tgt := 129) (q := 118) hC h4 dX7_meet_115 (by decide) rfl (fun c24 => ?_) (fun c24 => ?_)
        · replace hf := (if_neg c24).symm.trans hf
          refine V_iload (k := 5) (q := 131) hC 4 rfl dX7_meet_129 rfl ?_
          refine V_lsub [0, 1, 2, 3, 5, 6, 7] rfl ?_
          exact ih.2.2.2 hs h2 h3 h4 h6 h7 hw0 h5 hf
        · replace hf := (if_pos c24).symm.trans hf
          refine V_bipush (q := 120) hC (by decide) dX7_meet_118 rfl ?_
          refine V_iload (k := 6) (q := 122) hC 5 rfl dX7_meet_120 rfl ?_
          refine V_imul (q := 123) hC dX7_meet_122 rfl ?_
          refine V_iload (k := 7) (q := 125) hC 6 rfl dX7_meet_123 rfl ?_
          refine V_iadd (q := 126) hC dX7_meet_125 rfl ?_
          refine V_goto (tgt := 131) hC dX7_meet_126 (by decide) ?_
          refine V_lsub [0, 1, 2, 3, 5, 6, 7] rfl ?_
          exact ih.2.2.2 hs h2 h3 h4 h6 h7 hw0 (Rg_wr _) hf
    · intro σ hs v2 v3 v4 v6 v7 v8 w0 h2 h3 h4 h6 h7 h8 hw0 hf
      replace hf := (lX7_meet_39_e3 n σ v2 v3 v4 0 v6 v7 w0 v8).symm.trans hf
      refine V_istore (i := 5) (lv' := [(0, rf G 7 0), (2, iv v2), (3, iv v3), (4, iv v4), (5, iv w0), (6, iv v6), (7, iv v7), (8, iv v8)]) (q := 133) hC [1, 2, 3, 4, 0, 5, 6, 7] (by decide) rfl dX7_meet_131 rfl ?_
      refine V_iload (k := 4) (q := 135) hC 3 rfl dX7_meet_133 rfl ?_
      refine V_iload (k := 8) (q := 137) hC 7 rfl dX7_meet_135 rfl ?_
      refine V_if_eq (tgt := 144) (q := 140) hC h8 dX7_meet_137 (by decide) rfl (fun c25 => ?_) (fun c25 => ?_)
      · replace hf := (if_pos c25).symm.trans hf
        refine V_iconst (q := 145) hC dX7_meet_144 rfl ?_
        refine V_iadd (q := 146) hC dX7_meet_145 rfl ?_
        refine V_istore (i := 4) (lv' := [(0, rf G 7 0), (2, iv v2), (3, iv v3), (4, iv (wr (v4 + 0))), (5, iv w0), (6, iv v6), (7, iv v7), (8, iv v8)]) (q := 148) hC [1, 2, 3, 0, 4, 5, 6, 7] (by decide) rfl dX7_meet_146 rfl ?_
        refine V_iinc (i := 7) (lv' := [(0, rf G 7 0), (2, iv v2), (3, iv v3), (4, iv (wr (v4 + 0))), (5, iv w0), (6, iv v6), (7, iv (wr (v7 + 1))), (8, iv v8)]) (q := 151) hC 6 rfl [1, 2, 3, 4, 5, 6, 0, 7] (by decide) rfl dX7_meet_148 rfl ?_
        refine V_goto (tgt := 56) hC dX7_meet_151 (by decide) ?_
        refine V_lsub [0, 1, 2, 3, 4, 5, 6] rfl ?_
        exact ih.2.1 hs h2 h3 (Rg_wr _) hw0 h6 (Rg_wr _) hf
      · replace hf := (if_neg c25).symm.trans hf
        refine V_iconst (q := 141) hC dX7_meet_140 rfl ?_
        refine V_goto (tgt := 145) hC dX7_meet_141 (by decide) ?_
        refine V_iadd (q := 146) hC dX7_meet_145 rfl ?_
        refine V_istore (i := 4) (lv' := [(0, rf G 7 0), (2, iv v2), (3, iv v3), (4, iv (wr (v4 + 1))), (5, iv w0), (6, iv v6), (7, iv v7), (8, iv v8)]) (q := 148) hC [1, 2, 3, 0, 4, 5, 6, 7] (by decide) rfl dX7_meet_146 rfl ?_
        refine V_iinc (i := 7) (lv' := [(0, rf G 7 0), (2, iv v2), (3, iv v3), (4, iv (wr (v4 + 1))), (5, iv w0), (6, iv v6), (7, iv (wr (v7 + 1))), (8, iv v8)]) (q := 151) hC 6 rfl [1, 2, 3, 4, 5, 6, 0, 7] (by decide) rfl dX7_meet_148 rfl ?_
        refine V_goto (tgt := 56) hC dX7_meet_151 (by decide) ?_
        refine V_lsub [0, 1, 2, 3, 4, 5, 6] rfl ?_
        exact ih.2.1 hs h2 h3 (Rg_wr _) hw0 h6 (Rg_wr _) hf
set_option maxHeartbeats 4000000 in
set_option maxRecDepth 100000 in
theorem sX7_meet (l : Launch) {G : GT} (hG : GI G) {v1 : Int} {v2 : Int} (h1 : Rg v1) (h2 : Rg v2) {σ : Hp} (hs : RgS σ) {r0 : Int × Hp} (hf : fX7_meet σ v1 v2 = some r0) : Cti l G yX7_meet wsX7_meet rmX7_meet [rf G 7 0, iv v1, iv v2] σ r0.1 r0.2 := by
  unfold fX7_meet at hf
  refine Cti_start (lv := [(0, rf G 7 0), (1, iv v1), (2, iv v2)]) (ret := (some .int)) (by decide +kernel) rfl hG (Nat.le_of_ble_eq_true rfl) rfl (fun p e s m args below meth c hC hr hlk => ?_)
  refine V_aload_n (k := 0) (q := 1) hC 0 rfl dX7_meet_0 rfl ?_
  refine V_iload_n (k := 1) (q := 2) hC 1 rfl dX7_meet_1 rfl ?_
  refine V_cvi (st := []) (q := 5) hC (sX7_isTree l hG h1 hs) (cwV 1 hC.2.2.2.2.1 gX7_meet_X7_isTree rfl rfl rfl (by decide +kernel) ⟨Nat.le_of_ble_eq_true rfl, Nat.le_of_ble_eq_true rfl⟩) ⟨_, rfl, rfl⟩ iD7 (fun _ => ⟨_, rfl⟩) rfl rfl (Nat.le_of_ble_eq_true rfl) dX7_meet_2 rfl ⟨Nat.zero_le _, Nat.zero_le _⟩ (fun hr1 _ => ?_)
  refine V_if_eq (tgt := 17) (q := 8) hC hr1 dX7_meet_5 (by decide) rfl (fun c2 => ?_) (fun c2 => ?_)
  · replace hf := (if_pos c2).symm.trans hf
    refine V_ldc (q := 19) (n := (-1000001)) hC (by decide) kX7_meet_c61 dX7_meet_17 rfl ?_
    exact V_iret hC hr hlk (re_1 hf) (re_2 hf) (Rg_c rfl) hs dX7_meet_19
  · replace hf := (if_neg c2).symm.trans hf
    refine V_iload_n (k := 2) (q := 9) hC 2 rfl dX7_meet_8 rfl ?_
    refine V_iconst (q := 10) hC dX7_meet_9 rfl ?_
    refine V_iconst (q := 11) hC dX7_meet_10 rfl ?_
    refine V_csi (st := []) (q := 14) hC (sX7_in l hG h2 (Rg_c rfl) (Rg_c rfl) hs) (va_cwS 3 hC.2.2.2.2.1 gX7_meet_X7_in rfl rfl rfl (by decide +kernel) ⟨Nat.le_of_ble_eq_true rfl, Nat.le_of_ble_eq_true rfl⟩) rfl rfl (Nat.le_of_ble_eq_true rfl) dX7_meet_11 rfl ⟨Nat.zero_le _, Nat.zero_le _⟩ (fun hr3 _ => ?_)
    refine V_if_ne (tgt := 20) (q := 17) hC hr3 dX7_meet_14 (by decide) rfl (fun c4 => ?_) (fun c4 => ?_)
    · replace hf := (if_neg c4).symm.trans hf
      refine V_aload_n (k := 0) (q := 21) hC 0 rfl dX7_meet_20 rfl ?_
      refine V_getf (T := TX7) (k := 13) (q := 24) hC uX7_meet_7 rfl iD7 rfl (by decide) kX7_meet_f25 rfl dX7_meet_21 rfl ?_
      refine V_iload_n (k := 1) (q := 25) hC 1 rfl dX7_meet_24 rfl ?_
      obtain ⟨r5, σ6, hc7, hf⟩ := cl_some hf
      refine V_csi (st := []) (q := 28) (x0 := r5) (σ0 := σ6) hC (sX7_legible l hG iD27 h1 hs hc7) (va_cwS 2 hC.2.2.2.2.1 gX7_meet_X7_legible rfl rfl rfl (by decide +kernel) ⟨Nat.le_of_ble_eq_true rfl, Nat.le_of_ble_eq_true rfl⟩) rfl rfl (Nat.le_of_ble_eq_true rfl) dX7_meet_25 rfl ⟨Nat.zero_le _, Nat.zero_le _⟩ (fun hr8 hs9 => ?_)
      refine V_istore_n (k := 3) (i := 3) (lv' := [(0, rf G 7 0), (1, iv v1), (2, iv v2), (3, iv r5)]) (q := 29) hC [1, 2, 3, 0] rfl (by decide) rfl dX7_meet_28 rfl ?_
      refine V_iconst (q := 30) hC dX7_meet_29 rfl ?_
      refine V_istore (i := 4) (lv' := [(0, rf G 7 0), (1, iv v1), (2, iv v2), (3, iv r5), (4, iv 0)]) (q := 32) hC [1, 2, 3, 4, 0] (by decide) rfl dX7_meet_30 rfl ?_
      refine V_ldc (q := 34) (n := (-1000000)) hC (by decide) kX7_meet_c47 dX7_meet_32 rfl ?_
      refine V_istore (i := 5) (lv' := [(0, rf G 7 0), (1, iv v1), (2, iv v2), (3, iv r5), (4, iv 0), (5, iv (-1000000))]) (q := 36) hC [1, 2, 3, 4, 5, 0] (by decide) rfl dX7_meet_34 rfl ?_
      refine V_iconst (q := 37) hC dX7_meet_36 rfl ?_
      refine V_istore (i := 6) (lv' := [(0, rf G 7 0), (1, iv v1), (2, iv v2), (3, iv r5), (4, iv 0), (5, iv (-1000000)), (6, iv 0)]) (q := 39) hC [1, 2, 3, 4, 5, 6, 0] (by decide) rfl dX7_meet_37 rfl ?_
      refine V_lsub [0, 2, 3, 4, 5, 6] rfl ?_
      exact (tlX7_meet_39 hG hC hr hlk FU).1 hs9 h2 hr8 (Rg_c rfl) (Rg_c rfl) (Rg_c rfl) hf
    · replace hf := (if_pos c4).symm.trans hf
      refine V_ldc (q := 19) (n := (-1000001)) hC (by decide) kX7_meet_c61 dX7_meet_17 rfl ?_
      exact V_iret hC hr hlk (re_1 hf) (re_2 hf) (Rg_c rfl) hs dX7_meet_19
/-! X7_rings -/
theorem kX7_rings_c61 : Cond.constant RX7 61 (-1000001) ∈ wsX7_rings := by decide +kernel
theorem kX7_rings_f25 : Cond.fieldLink RX7 25 "BarkNamesModel" "now" "[I" ∈ wsX7_rings := by decide +kernel
theorem uX7_rings_7 : ∀ w ∈ u_ws RX7 TX7 22, w ∈ wsX7_rings := by decide +kernel
abbrev rmX7_rings : Room := { frames := 3, cells := 0, slots := 0, locals := 71 }
set_option maxHeartbeats 4000000 in
set_option maxRecDepth 100000 in
theorem tlX7_rings_38 {p : Program} {l : Launch} {e : Env} {s : State} {m : MethodId} {args : Array Value} {below : List Frame} {meth : Method} {c : Code} {G : GT} (hG : GI G) (hC : CX p s m args c cX7_rings 8 RX7 wsX7_rings G (AA G)) (hr : meth.sig.returnType = (some .int)) (hlk : meth.locks = false) {r0 : Int × Hp} : ∀ n : Nat, (∀ {σ : Hp} (hs : RgS σ) {v2 : Int} {v3 : Int} {v4 : Int} {v5 : Int} {v6 : Int} (h2 : Rg v2) (h3 : Rg v3) (h4 : Rg v4) (h5 : Rg v5) (h6 : Rg v6) (hf : lX7_rings_38 n σ v2 v3 v4 v5 v6 = some r0), VV p l e (headSpec wsX7_rings rmX7_rings).room s m args below meth c (MQ below (QI G r0.1 r0.2) args s 0 0 (AA G)) G (AA G) 0 0 8 σ 38 [(0, rf G 7 0), (2, iv v2), (3, iv v3), (4, iv v4), (5, iv v5), (6, iv v6)] []) := by
  intro n
  induction n with
  | zero =>
    exact by intro σ hs v2 v3 v4 v5 v6 h2 h3 h4 h5 h6 hf; exact absurd (show (none : Option (Int × Hp)) = some r0 from hf) (fun z => by cases z)
  | succ n ih =>
    intro σ hs v2 v3 v4 v5 v6 h2 h3 h4 h5 h6 hf
    replace hf := (lX7_rings_38_e0 n σ v2 v3 v4 v5 v6).symm.trans hf
    refine V_iload (k := 6) (q := 40) hC 5 rfl dX7_rings_38 rfl ?_
    refine V_aload_n (k := 0) (q := 41) hC 0 rfl dX7_rings_40 rfl ?_
    refine V_getf (T := TX7) (k := 13) (q := 44) hC uX7_rings_7 rfl iD7 rfl (by decide) kX7_rings_f25 rfl dX7_rings_41 rfl ?_
    refine V_iconst (q := 45) hC dX7_rings_44 rfl ?_
    refine V_iald (n := 48) (q := 46) hC iD27 rfl ⟨by decide, by decide⟩ (Rg_c rfl) dX7_rings_45 rfl ?_
    refine V_icmp_ge (tgt := 108) (q := 49) hC h6 (hs _ _ _) dX7_rings_46 (by decide) rfl (fun c10 => ?_) (fun c10 => ?_)
    · replace hf := (if_pos c10).symm.trans hf
      refine V_iload_n (k := 2) (q := 109) hC 1 rfl dX7_rings_108 rfl ?_
      refine V_if_ne (tgt := 117) (q := 112) hC h2 dX7_rings_109 (by decide) rfl (fun c11 => ?_) (fun c11 => ?_)
      · replace hf := (if_neg c11).symm.trans hf
        refine V_iload (k := 5) (q := 119) hC 4 rfl dX7_rings_117 rfl ?_
        exact V_iret hC hr hlk (re_1 hf) (re_2 hf) h5 hs dX7_rings_119
      · replace hf := (if_pos c11).symm.trans hf
        refine V_iload (k := 4) (q := 114) hC 3 rfl dX7_rings_112 rfl ?_
        refine V_goto (tgt := 119) hC dX7_rings_114 (by decide) ?_
        exact V_iret hC hr hlk (re_1 hf) (re_2 hf) h4 hs dX7_rings_119
    · replace hf := (if_neg c10).symm.trans hf
      refine V_iload_n (k := 3) (q := 50) hC 2 rfl dX7_rings_49 rfl ?_
      refine V_iload (k := 6) (q := 52) hC 5 rfl dX7_rings_50 rfl ?_
      refine V_csi (st := []) (q := 55) hC (sX7_has l hG h3 h6 hs) (va_cwS 2 hC.2.2.2.2.1 gX7_rings_X7_has rfl rfl rfl (by decide +kernel) ⟨Nat.le_of_ble_eq_true rfl, Nat.le_of_ble_eq_true rfl⟩) rfl rfl (Nat.le_of_ble_eq_true rfl) dX7_rings_52 rfl ⟨Nat.zero_le _, Nat.zero_le _⟩ (fun hr12 _ => ?_)
      refine V_if_eq (tgt := 102) (q := 58) hC hr12 dX7_rings_55 (by decide) rfl (fun c13 => ?_) (fun c13 => ?_)
      · replace hf := (if_pos c13).symm.trans hf
        refine V_iinc (i := 6) (lv' := [(0, rf G 7 0), (2, iv v2), (3, iv v3), (4, iv v4), (5, iv v5), (6, iv (wr (v6 + 1)))]) (q := 105) hC 5 rfl [1, 2, 3, 4, 5, 0] (by decide) rfl dX7_rings_102 rfl ?_
        refine V_goto (tgt := 38) hC dX7_rings_105 (by decide) ?_
        refine V_lsub [0, 1, 2, 3, 4, 5] rfl ?_
        exact ih hs h2 h3 h4 h5 (Rg_wr _) hf
      · replace hf := (if_neg c13).symm.trans hf
        refine V_aload_n (k := 0) (q := 59) hC 0 rfl dX7_rings_58 rfl ?_
        refine V_getf (T := TX7) (k := 13) (q := 62) hC uX7_rings_7 rfl iD7 rfl (by decide) kX7_rings_f25 rfl dX7_rings_59 rfl ?_
        refine V_iload (k := 6) (q := 64) hC 5 rfl dX7_rings_62 rfl ?_
        refine V_iload_n (k := 3) (q := 65) hC 2 rfl dX7_rings_64 rfl ?_
        obtain ⟨r14, σ15, hc16, hf⟩ := cl_some hf
        refine V_csi (st := []) (q := 68) (x0 := r14) (σ0 := σ15) hC (sX7_ringOf l hG iD27 h6 h3 hs hc16) (va_cwS 3 hC.2.2.2.2.1 gX7_rings_X7_ringOf rfl rfl rfl (by decide +kernel) ⟨Nat.le_of_ble_eq_true rfl, Nat.le_of_ble_eq_true rfl⟩) rfl rfl (Nat.le_of_ble_eq_true rfl) dX7_rings_65 rfl ⟨Nat.zero_le _, Nat.zero_le _⟩ (fun hr17 hs18 => ?_)
        refine V_istore (i := 7) (lv' := [(0, rf G 7 0), (2, iv v2), (3, iv v3), (4, iv v4), (5, iv v5), (6, iv v6), (7, iv r14)]) (q := 70) hC [1, 2, 3, 4, 5, 6, 0] (by decide) rfl dX7_rings_68 rfl ?_
        refine V_iload_n (k := 3) (q := 71) hC 2 rfl dX7_rings_70 rfl ?_
        refine V_iload (k := 7) (q := 73) hC 6 rfl dX7_rings_71 rfl ?_
        refine V_iconst (q := 74) hC dX7_rings_73 rfl ?_
        refine V_ixor (q := 75) hC dX7_rings_74 rfl ?_
        refine V_iand (q := 76) hC dX7_rings_75 rfl ?_
        refine V_istore_n (k := 3) (i := 3) (lv' := [(0, rf G 7 0), (2, iv v2), (3, iv (qand v3 (qxor r14 (-1)))), (4, iv v4), (5, iv v5), (6, iv v6), (7, iv r14)]) (q := 77) hC [1, 2, 0, 3, 4, 5, 6] rfl (by decide) rfl dX7_rings_76 rfl ?_
        refine V_iinc (i := 4) (lv' := [(0, rf G 7 0), (2, iv v2), (3, iv (qand v3 (qxor r14 (-1)))), (4, iv (wr (v4 + 1))), (5, iv v5), (6, iv v6), (7, iv r14)]) (q := 80) hC 3 rfl [1, 2, 3, 0, 4, 5, 6] (by decide) rfl dX7_rings_77 rfl ?_
        refine V_iload (k := 7) (q := 82) hC 6 rfl dX7_rings_80 rfl ?_
        obtain ⟨r19, σ20, hc21, hf⟩ := cl_some hf
        refine V_csi (st := []) (q := 85) (x0 := r19) (σ0 := σ20) hC (sX7_ones l hG hr17 hs18 hc21) (va_cwS 1 hC.2.2.2.2.1 gX7_rings_X7_ones rfl rfl rfl (by decide +kernel) ⟨Nat.le_of_ble_eq_true rfl, Nat.le_of_ble_eq_true rfl⟩) rfl rfl (Nat.le_of_ble_eq_true rfl) dX7_rings_82 rfl ⟨Nat.zero_le _, Nat.zero_le _⟩ (fun hr22 hs23 => ?_)
        refine V_iload (k := 5) (q := 87) hC 4 rfl dX7_rings_85 rfl ?_
        refine V_icmp_le (tgt := 98) (q := 90) hC hr22 h5 dX7_rings_87 (by decide) rfl (fun c24 => ?_) (fun c24 => ?_)
        · replace hf := (if_pos c24).symm.trans hf
          refine V_iload (k := 5) (q := 100) hC 4 rfl dX7_rings_98 rfl ?_
          refine V_istore (i := 5) (lv' := [(0, rf G 7 0), (2, iv v2), (3, iv (qand v3 (qxor r14 (-1)))), (4, iv (wr (v4 + 1))), (5, iv v5), (6, iv v6), (7, iv r14)]) (q := 102) hC [1, 2, 3, 4, 0, 5, 6] (by decide) rfl dX7_rings_100 rfl ?_
          refine V_iinc (i := 6) (lv' := [(0, rf G 7 0), (2, iv v2), (3, iv (qand v3 (qxor r14 (-1)))), (4, iv (wr (v4 + 1))), (5, iv v5), (6, iv (wr (v6 + 1))), (7, iv r14)]) (q := 105) hC 5 rfl [1, 2, 3, 4, 5, 0, 6] (by decide) rfl dX7_rings_102 rfl ?_
          refine V_goto (tgt := 38) hC dX7_rings_105 (by decide) ?_
          refine V_lsub [0, 1, 2, 3, 4, 5] rfl ?_
          exact ih hs23 h2 (Rg_qand _ _) (Rg_wr _) h5 (Rg_wr _) hf
        · replace hf := (if_neg c24).symm.trans hf
          refine V_iload (k := 7) (q := 92) hC 6 rfl dX7_rings_90 rfl ?_
          obtain ⟨r25, σ26, hc27, hf⟩ := cl_some hf
          refine V_csi (st := []) (q := 95) (x0 := r25) (σ0 := σ26) hC (sX7_ones l hG hr17 hs23 hc27) (va_cwS 1 hC.2.2.2.2.1 gX7_rings_X7_ones rfl rfl rfl (by decide +kernel) ⟨Nat.le_of_ble_eq_true rfl, Nat.le_of_ble_eq_true rfl⟩) rfl rfl (Nat.le_of_ble_eq_true rfl) dX7_rings_92 rfl ⟨Nat.zero_le _, Nat.zero_le _⟩ (fun hr28 hs29 => ?_)
          refine V_goto (tgt := 100) hC dX7_rings_95 (by decide) ?_
          refine V_istore (i := 5) (lv' := [(0, rf G 7 0), (2, iv v2), (3, iv (qand v3 (qxor r14 (-1)))), (4, iv (wr (v4 + 1))), (5, iv r25), (6, iv v6), (7, iv r14)]) (q := 102) hC [1, 2, 3, 4, 0, 5, 6] (by decide) rfl dX7_rings_100 rfl ?_
          refine V_iinc (i := 6) (lv' := [(0, rf G 7 0), (2, iv v2), (3, iv (qand v3 (qxor r14 (-1)))), (4, iv (wr (v4 + 1))), (5, iv r25), (6, iv (wr (v6 + 1))), (7, iv r14)]) (q := 105) hC 5 rfl [1, 2, 3, 4, 5, 0, 6] (by decide) rfl dX7_rings_102 rfl ?_
          refine V_goto (tgt := 38) hC dX7_rings_105 (by decide) ?_
          refine V_lsub [0, 1, 2, 3, 4, 5] rfl ?_
          exact ih hs29 h2 (Rg_qand _ _) (Rg_wr _) hr28 (Rg_wr _) hf
set_option maxHeartbeats 4000000 in
set_option maxRecDepth 100000 in
theorem sX7_rings (l : Launch) {G : GT} (hG : GI G) {v1 : Int} {v2 : Int} (h1 : Rg v1) (h2 : Rg v2) {σ : Hp} (hs : RgS σ) {r0 : Int × Hp} (hf : fX7_rings σ v1 v2 = some r0) : Cti l G yX7_rings wsX7_rings rmX7_rings [rf G 7 0, iv v1, iv v2] σ r0.1 r0.2 := by
  unfold fX7_rings at hf
  refine Cti_start (lv := [(0, rf G 7 0), (1, iv v1), (2, iv v2)]) (ret := (some .int)) (by decide +kernel) rfl hG (Nat.le_of_ble_eq_true rfl) rfl (fun p e s m args below meth c hC hr hlk => ?_)
  refine V_aload_n (k := 0) (q := 1) hC 0 rfl dX7_rings_0 rfl ?_
  refine V_iload_n (k := 1) (q := 2) hC 1 rfl dX7_rings_1 rfl ?_
  refine V_cvi (st := []) (q := 5) hC (sX7_isTree l hG h1 hs) (cwV 1 hC.2.2.2.2.1 gX7_rings_X7_isTree rfl rfl rfl (by decide +kernel) ⟨Nat.le_of_ble_eq_true rfl, Nat.le_of_ble_eq_true rfl⟩) ⟨_, rfl, rfl⟩ iD7 (fun _ => ⟨_, rfl⟩) rfl rfl (Nat.le_of_ble_eq_true rfl) dX7_rings_2 rfl ⟨Nat.zero_le _, Nat.zero_le _⟩ (fun hr1 _ => ?_)
  refine V_if_eq (tgt := 17) (q := 8) hC hr1 dX7_rings_5 (by decide) rfl (fun c2 => ?_) (fun c2 => ?_)
  · replace hf := (if_pos c2).symm.trans hf
    refine V_ldc (q := 19) (n := (-1000001)) hC (by decide) kX7_rings_c61 dX7_rings_17 rfl ?_
    exact V_iret hC hr hlk (re_1 hf) (re_2 hf) (Rg_c rfl) hs dX7_rings_19
  · replace hf := (if_neg c2).symm.trans hf
    refine V_iload_n (k := 2) (q := 9) hC 2 rfl dX7_rings_8 rfl ?_
    refine V_iconst (q := 10) hC dX7_rings_9 rfl ?_
    refine V_iconst (q := 11) hC dX7_rings_10 rfl ?_
    refine V_csi (st := []) (q := 14) hC (sX7_in l hG h2 (Rg_c rfl) (Rg_c rfl) hs) (va_cwS 3 hC.2.2.2.2.1 gX7_rings_X7_in rfl rfl rfl (by decide +kernel) ⟨Nat.le_of_ble_eq_true rfl, Nat.le_of_ble_eq_true rfl⟩) rfl rfl (Nat.le_of_ble_eq_true rfl) dX7_rings_11 rfl ⟨Nat.zero_le _, Nat.zero_le _⟩ (fun hr3 _ => ?_)
    refine V_if_ne (tgt := 20) (q := 17) hC hr3 dX7_rings_14 (by decide) rfl (fun c4 => ?_) (fun c4 => ?_)
    · replace hf := (if_neg c4).symm.trans hf
      refine V_aload_n (k := 0) (q := 21) hC 0 rfl dX7_rings_20 rfl ?_
      refine V_getf (T := TX7) (k := 13) (q := 24) hC uX7_rings_7 rfl iD7 rfl (by decide) kX7_rings_f25 rfl dX7_rings_21 rfl ?_
      refine V_iload_n (k := 1) (q := 25) hC 1 rfl dX7_rings_24 rfl ?_
      obtain ⟨r5, σ6, hc7, hf⟩ := cl_some hf
      refine V_csi (st := []) (q := 28) (x0 := r5) (σ0 := σ6) hC (sX7_legible l hG iD27 h1 hs hc7) (va_cwS 2 hC.2.2.2.2.1 gX7_rings_X7_legible rfl rfl rfl (by decide +kernel) ⟨Nat.le_of_ble_eq_true rfl, Nat.le_of_ble_eq_true rfl⟩) rfl rfl (Nat.le_of_ble_eq_true rfl) dX7_rings_25 rfl ⟨Nat.zero_le _, Nat.zero_le _⟩ (fun hr8 hs9 => ?_)
      refine V_istore_n (k := 3) (i := 3) (lv' := [(0, rf G 7 0), (1, iv v1), (2, iv v2), (3, iv r5)]) (q := 29) hC [1, 2, 3, 0] rfl (by decide) rfl dX7_rings_28 rfl ?_
      refine V_iconst (q := 30) hC dX7_rings_29 rfl ?_
      refine V_istore (i := 4) (lv' := [(0, rf G 7 0), (1, iv v1), (2, iv v2), (3, iv r5), (4, iv 0)]) (q := 32) hC [1, 2, 3, 4, 0] (by decide) rfl dX7_rings_30 rfl ?_
      refine V_iconst (q := 33) hC dX7_rings_32 rfl ?_
      refine V_istore (i := 5) (lv' := [(0, rf G 7 0), (1, iv v1), (2, iv v2), (3, iv r5), (4, iv 0), (5, iv 0)]) (q := 35) hC [1, 2, 3, 4, 5, 0] (by decide) rfl dX7_rings_33 rfl ?_
      refine V_iconst (q := 36) hC dX7_rings_35 rfl ?_
      refine V_istore (i := 6) (lv' := [(0, rf G 7 0), (1, iv v1), (2, iv v2), (3, iv r5), (4, iv 0), (5, iv 0), (6, iv 0)]) (q := 38) hC [1, 2, 3, 4, 5, 6, 0] (by decide) rfl dX7_rings_36 rfl ?_
      refine V_lsub [0, 2, 3, 4, 5, 6] rfl ?_
      exact (tlX7_rings_38 hG hC hr hlk FU) hs9 h2 hr8 (Rg_c rfl) (Rg_c rfl) (Rg_c rfl) hf
    · replace hf := (if_pos c4).symm.trans hf
      refine V_ldc (q := 19) (n := (-1000001)) hC (by decide) kX7_rings_c61 dX7_rings_17 rfl ?_
      exact V_iret hC hr hlk (re_1 hf) (re_2 hf) (Rg_c rfl) hs dX7_rings_19
/-! X7_gaps -/
theorem kX7_gaps_c61 : Cond.constant RX7 61 (-1000001) ∈ wsX7_gaps := by decide +kernel
theorem kX7_gaps_f25 : Cond.fieldLink RX7 25 "BarkNamesModel" "now" "[I" ∈ wsX7_gaps := by decide +kernel
theorem uX7_gaps_7 : ∀ w ∈ u_ws RX7 TX7 22, w ∈ wsX7_gaps := by decide +kernel
theorem kX7_gaps_f16 : Cond.fieldLink RX7 16 "BarkNamesModel" "items" "[I" ∈ wsX7_gaps := by decide +kernel
abbrev rmX7_gaps : Room := { frames := 3, cells := 0, slots := 0, locals := 74 }
set_option maxHeartbeats 4000000 in
set_option maxRecDepth 100000 in
theorem tlX7_gaps_66 {p : Program} {l : Launch} {e : Env} {s : State} {m : MethodId} {args : Array Value} {below : List Frame} {meth : Method} {c : Code} {G : GT} (hG : GI G) (hC : CX p s m args c cX7_gaps 9 RX7 wsX7_gaps G (AA G)) (hr : meth.sig.returnType = (some .int)) (hlk : meth.locks = false) {r0 : Int × Hp} : ∀ n : Nat, (∀ {σ : Hp} (hs : RgS σ) {v1 : Int} {v2 : Int} {v3 : Int} {v4 : Int} {v5 : Int} {v6 : Int} (h1 : Rg v1) (h2 : Rg v2) (h3 : Rg v3) (h4 : Rg v4) (h5 : Rg v5) (h6 : Rg v6) (hf : lX7_gaps_66 n 0 σ v1 v2 v3 v4 v5 v6 0 0 = some r0), VV p l e (headSpec wsX7_gaps rmX7_gaps).room s m args below meth c (MQ below (QI G r0.1 r0.2) args s 0 0 (AA G)) G (AA G) 0 0 9 σ 66 [(0, rf G 7 0), (1, iv v1), (2, iv v2), (3, iv v3), (4, iv v4), (5, iv v5), (6, iv v6)] []) ∧ (∀ {σ : Hp} (hs : RgS σ) {v1 : Int} {v2 : Int} {v3 : Int} {v4 : Int} {v5 : Int} {v6 : Int} {v7 : Int} {v8 : Int} (h1 : Rg v1) (h2 : Rg v2) (h3 : Rg v3) (h4 : Rg v4) (h5 : Rg v5) (h6 : Rg v6) (h7 : Rg v7) (h8 : Rg v8) (hf : lX7_gaps_66 n 1 σ v1 v2 v3 v4 v5 v6 v7 v8 = some r0), VV p l e (headSpec wsX7_gaps rmX7_gaps).room s m args below meth c (MQ below (QI G r0.1 r0.2) args s 0 0 (AA G)) G (AA G) 0 0 9 σ 79 [(0, rf G 7 0), (1, iv v1), (2, iv v2), (3, iv v3), (4, iv v4), (5, iv v5), (6, iv v6), (7, iv v7), (8, iv v8)] []) := by
  intro n
  induction n with
  | zero =>
    exact ⟨by intro σ hs v1 v2 v3 v4 v5 v6 h1 h2 h3 h4 h5 h6 hf; exact absurd (show (none : Option (Int × Hp)) = some r0 from hf) (fun z => by cases z), by intro σ hs v1 v2 v3 v4 v5 v6 v7 v8 h1 h2 h3 h4 h5 h6 h7 h8 hf; exact absurd (show (none : Option (Int × Hp)) = some r0 from hf) (fun z => by cases z)⟩
  | succ n ih =>
    refine ⟨?_, ?_⟩
    · intro σ hs v1 v2 v3 v4 v5 v6 h1 h2 h3 h4 h5 h6 hf
      replace hf := (lX7_gaps_66_e0 n σ v1 v2 v3 v4 v5 v6 0 0).symm.trans hf
      refine V_iload (k := 6) (q := 68) hC 6 rfl dX7_gaps_66 rfl ?_
      refine V_bipush (q := 70) hC (by decide) dX7_gaps_68 rfl ?_
      refine V_icmp_ge (tgt := 166) (q := 73) hC h6 (Rg_c rfl) dX7_gaps_70 (by decide) rfl (fun c29 => ?_) (fun c29 => ?_)
      · replace hf := (if_pos c29).symm.trans hf
        refine V_aload_n (k := 0) (q := 167) hC 0 rfl dX7_gaps_166 rfl ?_
        refine V_iload (k := 5) (q := 169) hC 5 rfl dX7_gaps_167 rfl ?_
        obtain ⟨r30, σ31, hc32, hf⟩ := cl_some hf
        refine V_cvi (st := []) (q := 172) (x0 := r30) (σ0 := σ31) hC (sX7_well l hG h5 hs hc32) (cwV 1 hC.2.2.2.2.1 gX7_gaps_X7_well rfl rfl rfl (by decide +kernel) ⟨Nat.le_of_ble_eq_true rfl, Nat.le_of_ble_eq_true rfl⟩) ⟨_, rfl, rfl⟩ iD7 (fun _ => ⟨_, rfl⟩) rfl rfl (Nat.le_of_ble_eq_true rfl) dX7_gaps_169 rfl ⟨Nat.zero_le _, Nat.zero_le _⟩ (fun hr33 hs34 => ?_)
        exact V_iret hC hr hlk (re_1 hf) (re_2 hf) hr33 hs34 dX7_gaps_172
      · replace hf := (if_neg c29).symm.trans hf
        refine V_iconst (q := 74) hC dX7_gaps_73 rfl ?_
        refine V_istore (i := 7) (lv' := [(0, rf G 7 0), (1, iv v1), (2, iv v2), (3, iv v3), (4, iv v4), (5, iv v5), (6, iv v6), (7, iv 1)]) (q := 76) hC [1, 2, 3, 4, 5, 6, 7, 0] (by decide) rfl dX7_gaps_74 rfl ?_
        refine V_iconst (q := 77) hC dX7_gaps_76 rfl ?_
        refine V_istore (i := 8) (lv' := [(0, rf G 7 0), (1, iv v1), (2, iv v2), (3, iv v3), (4, iv v4), (5, iv v5), (6, iv v6), (7, iv 1), (8, iv 0)]) (q := 79) hC [1, 2, 3, 4, 5, 6, 7, 8, 0] (by decide) rfl dX7_gaps_77 rfl ?_
        refine V_lsub [0, 1, 2, 3, 4, 5, 6, 7, 8] rfl ?_
        exact ih.2 hs h1 h2 h3 h4 h5 h6 (Rg_c rfl) (Rg_c rfl) hf
    · intro σ hs v1 v2 v3 v4 v5 v6 v7 v8 h1 h2 h3 h4 h5 h6 h7 h8 hf
      replace hf := (lX7_gaps_66_e1 n σ v1 v2 v3 v4 v5 v6 v7 v8).symm.trans hf
      refine V_iload (k := 8) (q := 81) hC 8 rfl dX7_gaps_79 rfl ?_
      refine V_iload (k := 4) (q := 83) hC 4 rfl dX7_gaps_81 rfl ?_
      refine V_icmp_ge (tgt := 142) (q := 86) hC h8 h4 dX7_gaps_83 (by decide) rfl (fun c35 => ?_) (fun c35 => ?_)
      · replace hf := (if_pos c35).symm.trans hf
        refine V_iload (k := 5) (q := 144) hC 5 rfl dX7_gaps_142 rfl ?_
        refine V_iload (k := 7) (q := 146) hC 7 rfl dX7_gaps_144 rfl ?_
        refine V_if_eq (tgt := 156) (q := 149) hC h7 dX7_gaps_146 (by decide) rfl (fun c36 => ?_) (fun c36 => ?_)
        · replace hf := (if_pos c36).symm.trans hf
          refine V_iconst (q := 157) hC dX7_gaps_156 rfl ?_
          refine V_ior (q := 158) hC dX7_gaps_157 rfl ?_
          refine V_istore (i := 5) (lv' := [(0, rf G 7 0), (1, iv v1), (2, iv v2), (3, iv v3), (4, iv v4), (5, iv (qor v5 0)), (6, iv v6), (7, iv v7), (8, iv v8)]) (q := 160) hC [1, 2, 3, 4, 5, 0, 6, 7, 8] (by decide) rfl dX7_gaps_158 rfl ?_
          refine V_iinc (i := 6) (lv' := [(0, rf G 7 0), (1, iv v1), (2, iv v2), (3, iv v3), (4, iv v4), (5, iv (qor v5 0)), (6, iv (wr (v6 + 1))), (7, iv v7), (8, iv v8)]) (q := 163) hC 6 rfl [1, 2, 3, 4, 5, 6, 0, 7, 8] (by decide) rfl dX7_gaps_160 rfl ?_
          refine V_goto (tgt := 66) hC dX7_gaps_163 (by decide) ?_
          refine V_lsub [0, 1, 2, 3, 4, 5, 6] rfl ?_
          exact ih.1 hs h1 h2 h3 h4 (Rg_qor _ _) (Rg_wr _) hf
        · replace hf := (if_neg c36).symm.trans hf
          refine V_iconst (q := 150) hC dX7_gaps_149 rfl ?_
          refine V_iload (k := 6) (q := 152) hC 6 rfl dX7_gaps_150 rfl ?_
          refine V_ishl (q := 153) hC dX7_gaps_152 rfl ?_
          refine V_goto (tgt := 157) hC dX7_gaps_153 (by decide) ?_
          refine V_ior (q := 158) hC dX7_gaps_157 rfl ?_
          refine V_istore (i := 5) (lv' := [(0, rf G 7 0), (1, iv v1), (2, iv v2), (3, iv v3), (4, iv v4), (5, iv (qor v5 (qshl 1 v6))), (6, iv v6), (7, iv v7), (8, iv v8)]) (q := 160) hC [1, 2, 3, 4, 5, 0, 6, 7, 8] (by decide) rfl dX7_gaps_158 rfl ?_
          refine V_iinc (i := 6) (lv' := [(0, rf G 7 0), (1, iv v1), (2, iv v2), (3, iv v3), (4, iv v4), (5, iv (qor v5 (qshl 1 v6))), (6, iv (wr (v6 + 1))), (7, iv v7), (8, iv v8)]) (q := 163) hC 6 rfl [1, 2, 3, 4, 5, 6, 0, 7, 8] (by decide) rfl dX7_gaps_160 rfl ?_
          refine V_goto (tgt := 66) hC dX7_gaps_163 (by decide) ?_
          refine V_lsub [0, 1, 2, 3, 4, 5, 6] rfl ?_
          exact ih.1 hs h1 h2 h3 h4 (Rg_qor _ _) (Rg_wr _) hf
      · replace hf := (if_neg c35).symm.trans hf
        refine V_iload (k := 7) (q := 88) hC 7 rfl dX7_gaps_86 rfl ?_
        refine V_if_eq (tgt := 133) (q := 91) hC h7 dX7_gaps_88 (by decide) rfl (fun c37 => ?_) (fun c37 => ?_)
        · replace hf := (if_pos c37).symm.trans hf
          refine V_iconst (q := 134) hC dX7_gaps_133 rfl ?_
          refine V_istore (i := 7) (lv' := [(0, rf G 7 0), (1, iv v1), (2, iv v2), (3, iv v3), (4, iv v4), (5, iv v5), (6, iv v6), (7, iv 0), (8, iv v8)]) (q := 136) hC [1, 2, 3, 4, 5, 6, 7, 0, 8] (by decide) rfl dX7_gaps_134 rfl ?_
          refine V_iinc (i := 8) (lv' := [(0, rf G 7 0), (1, iv v1), (2, iv v2), (3, iv v3), (4, iv v4), (5, iv v5), (6, iv v6), (7, iv 0), (8, iv (wr (v8 + 1)))]) (q := 139) hC 8 rfl [1, 2, 3, 4, 5, 6, 7, 8, 0] (by decide) rfl dX7_gaps_136 rfl ?_
          refine V_goto (tgt := 79) hC dX7_gaps_139 (by decide) ?_
          refine V_lsub [0, 1, 2, 3, 4, 5, 6, 7, 8] rfl ?_
          exact ih.2 hs h1 h2 h3 h4 h5 h6 (Rg_c rfl) (Rg_wr _) hf
        · replace hf := (if_neg c37).symm.trans hf
          refine V_aload_n (k := 0) (q := 92) hC 0 rfl dX7_gaps_91 rfl ?_
          refine V_aload_n (k := 0) (q := 93) hC 0 rfl dX7_gaps_92 rfl ?_
          refine V_getf (T := TX7) (k := 13) (q := 96) hC uX7_gaps_7 rfl iD7 rfl (by decide) kX7_gaps_f25 rfl dX7_gaps_93 rfl ?_
          refine V_bipush (q := 98) hC (by decide) dX7_gaps_96 rfl ?_
          refine V_iconst (q := 99) hC dX7_gaps_98 rfl ?_
          refine V_iload_n (k := 1) (q := 100) hC 1 rfl dX7_gaps_99 rfl ?_
          refine V_imul (q := 101) hC dX7_gaps_100 rfl ?_
          refine V_iadd (q := 102) hC dX7_gaps_101 rfl ?_
          obtain ⟨g38, hf⟩ := gd_some hf
          refine V_iald (n := 48) (q := 103) hC iD27 rfl g38 (Rg_wr _) dX7_gaps_102 rfl ?_
          refine V_iload (k := 6) (q := 105) hC 6 rfl dX7_gaps_103 rfl ?_
          refine V_iload (k := 8) (q := 107) hC 8 rfl dX7_gaps_105 rfl ?_
          refine V_iconst (q := 108) hC dX7_gaps_107 rfl ?_
          refine V_iadd (q := 109) hC dX7_gaps_108 rfl ?_
          obtain ⟨r39, σ40, hc41, hf⟩ := cl_some hf
          refine V_cvi (st := []) (q := 112) (x0 := r39) (σ0 := σ40) hC (sX7_depthIn l hG (hs _ _ _) h6 (Rg_wr _) hs hc41) (cwV 3 hC.2.2.2.2.1 gX7_gaps_X7_depthIn rfl rfl rfl (by decide +kernel) ⟨Nat.le_of_ble_eq_true rfl, Nat.le_of_ble_eq_true rfl⟩) ⟨_, rfl, rfl⟩ iD7 (fun _ => ⟨_, rfl⟩) rfl rfl (Nat.le_of_ble_eq_true rfl) dX7_gaps_109 rfl ⟨Nat.zero_le _, Nat.zero_le _⟩ (fun hr42 hs43 => ?_)
          refine V_aload_n (k := 0) (q := 113) hC 0 rfl dX7_gaps_112 rfl ?_
          refine V_getf (T := TX7) (k := 2) (q := 116) hC uX7_gaps_7 rfl iD7 rfl (by decide) kX7_gaps_f16 rfl dX7_gaps_113 rfl ?_
          refine V_bipush (q := 118) hC (by decide) dX7_gaps_116 rfl ?_
          refine V_iload_n (k := 2) (q := 119) hC 2 rfl dX7_gaps_118 rfl ?_
          refine V_imul (q := 120) hC dX7_gaps_119 rfl ?_
          refine V_iload_n (k := 3) (q := 121) hC 3 rfl dX7_gaps_120 rfl ?_
          refine V_iadd (q := 122) hC dX7_gaps_121 rfl ?_
          refine V_iload (k := 8) (q := 124) hC 8 rfl dX7_gaps_122 rfl ?_
          refine V_iadd (q := 125) hC dX7_gaps_124 rfl ?_
          obtain ⟨g44, hf⟩ := gd_some hf
          refine V_iald (n := 320) (q := 126) hC iD24 rfl g44 (Rg_wr _) dX7_gaps_125 rfl ?_
          refine V_icmp_ne (tgt := 133) (q := 129) hC hr42 (hs43 _ _ _) dX7_gaps_126 (by decide) rfl (fun c45 => ?_) (fun c45 => ?_)
          · replace hf := (if_neg c45).symm.trans hf
            refine V_iconst (q := 134) hC dX7_gaps_133 rfl ?_
            refine V_istore (i := 7) (lv' := [(0, rf G 7 0), (1, iv v1), (2, iv v2), (3, iv v3), (4, iv v4), (5, iv v5), (6, iv v6), (7, iv 0), (8, iv v8)]) (q := 136) hC [1, 2, 3, 4, 5, 6, 7, 0, 8] (by decide) rfl dX7_gaps_134 rfl ?_
            refine V_iinc (i := 8) (lv' := [(0, rf G 7 0), (1, iv v1), (2, iv v2), (3, iv v3), (4, iv v4), (5, iv v5), (6, iv v6), (7, iv 0), (8, iv (wr (v8 + 1)))]) (q := 139) hC 8 rfl [1, 2, 3, 4, 5, 6, 7, 8, 0] (by decide) rfl dX7_gaps_136 rfl ?_
            refine V_goto (tgt := 79) hC dX7_gaps_139 (by decide) ?_
            refine V_lsub [0, 1, 2, 3, 4, 5, 6, 7, 8] rfl ?_
            exact ih.2 hs43 h1 h2 h3 h4 h5 h6 (Rg_c rfl) (Rg_wr _) hf
          · replace hf := (if_pos c45).symm.trans hf
            refine V_iconst (q := 130) hC dX7_gaps_129 rfl ?_
            refine V_goto (tgt := 134) hC dX7_gaps_130 (by decide) ?_
            refine V_istore (i := 7) (lv' := [(0, rf G 7 0), (1, iv v1), (2, iv v2), (3, iv v3), (4, iv v4), (5, iv v5), (6, iv v6), (7, iv 1), (8, iv v8)]) (q := 136) hC [1, 2, 3, 4, 5, 6, 7, 0, 8] (by decide) rfl dX7_gaps_134 rfl ?_
            refine V_iinc (i := 8) (lv' := [(0, rf G 7 0), (1, iv v1), (2, iv v2), (3, iv v3), (4, iv v4), (5, iv v5), (6, iv v6), (7, iv 1), (8, iv (wr (v8 + 1)))]) (q := 139) hC 8 rfl [1, 2, 3, 4, 5, 6, 7, 8, 0] (by decide) rfl dX7_gaps_136 rfl ?_
            refine V_goto (tgt := 79) hC dX7_gaps_139 (by decide) ?_
            refine V_lsub [0, 1, 2, 3, 4, 5, 6, 7, 8] rfl ?_
            exact ih.2 hs43 h1 h2 h3 h4 h5 h6 (Rg_c rfl) (Rg_wr _) hf
set_option maxHeartbeats 4000000 in
set_option maxRecDepth 100000 in
theorem sX7_gaps (l : Launch) {G : GT} (hG : GI G) {v1 : Int} {v2 : Int} {v3 : Int} {v4 : Int} (h1 : Rg v1) (h2 : Rg v2) (h3 : Rg v3) (h4 : Rg v4) {σ : Hp} (hs : RgS σ) {r0 : Int × Hp} (hf : fX7_gaps σ v1 v2 v3 v4 = some r0) : Cti l G yX7_gaps wsX7_gaps rmX7_gaps [rf G 7 0, iv v1, iv v2, iv v3, iv v4] σ r0.1 r0.2 := by
  unfold fX7_gaps at hf
  refine Cti_start (lv := [(0, rf G 7 0), (1, iv v1), (2, iv v2), (3, iv v3), (4, iv v4)]) (ret := (some .int)) (by decide +kernel) rfl hG (Nat.le_of_ble_eq_true rfl) rfl (fun p e s m args below meth c hC hr hlk => ?_)
  refine V_aload_n (k := 0) (q := 1) hC 0 rfl dX7_gaps_0 rfl ?_
  refine V_iload_n (k := 1) (q := 2) hC 1 rfl dX7_gaps_1 rfl ?_
  refine V_cvi (st := []) (q := 5) hC (sX7_isCut l hG h1 hs) (cwV 1 hC.2.2.2.2.1 gX7_gaps_X7_isCut rfl rfl rfl (by decide +kernel) ⟨Nat.le_of_ble_eq_true rfl, Nat.le_of_ble_eq_true rfl⟩) ⟨_, rfl, rfl⟩ iD7 (fun _ => ⟨_, rfl⟩) rfl rfl (Nat.le_of_ble_eq_true rfl) dX7_gaps_2 rfl ⟨Nat.zero_le _, Nat.zero_le _⟩ (fun hr1 _ => ?_)
  refine V_if_eq (tgt := 26) (q := 8) hC hr1 dX7_gaps_5 (by decide) rfl (fun c2 => ?_) (fun c2 => ?_)
  · replace hf := (if_pos c2).symm.trans hf
    refine V_ldc (q := 28) (n := (-1000001)) hC (by decide) kX7_gaps_c61 dX7_gaps_26 rfl ?_
    exact V_iret hC hr hlk (re_1 hf) (re_2 hf) (Rg_c rfl) hs dX7_gaps_28
  · replace hf := (if_neg c2).symm.trans hf
    refine V_iload_n (k := 2) (q := 9) hC 2 rfl dX7_gaps_8 rfl ?_
    refine V_csi (st := []) (q := 12) hC (sX7_isRow l hG h2 hs) (va_cwS 1 hC.2.2.2.2.1 gX7_gaps_X7_isRow rfl rfl rfl (by decide +kernel) ⟨Nat.le_of_ble_eq_true rfl, Nat.le_of_ble_eq_true rfl⟩) rfl rfl (Nat.le_of_ble_eq_true rfl) dX7_gaps_9 rfl ⟨Nat.zero_le _, Nat.zero_le _⟩ (fun hr3 _ => ?_)
    refine V_if_eq (tgt := 26) (q := 15) hC hr3 dX7_gaps_12 (by decide) rfl (fun c4 => ?_) (fun c4 => ?_)
    · replace hf := (if_pos c4).symm.trans hf
      refine V_ldc (q := 28) (n := (-1000001)) hC (by decide) kX7_gaps_c61 dX7_gaps_26 rfl ?_
      exact V_iret hC hr hlk (re_1 hf) (re_2 hf) (Rg_c rfl) hs dX7_gaps_28
    · replace hf := (if_neg c4).symm.trans hf
      refine V_iload (k := 4) (q := 17) hC 4 rfl dX7_gaps_15 rfl ?_
      refine V_iconst (q := 18) hC dX7_gaps_17 rfl ?_
      refine V_bipush (q := 20) hC (by decide) dX7_gaps_18 rfl ?_
      refine V_csi (st := []) (q := 23) hC (sX7_in l hG h4 (Rg_c rfl) (Rg_c rfl) hs) (va_cwS 3 hC.2.2.2.2.1 gX7_gaps_X7_in rfl rfl rfl (by decide +kernel) ⟨Nat.le_of_ble_eq_true rfl, Nat.le_of_ble_eq_true rfl⟩) rfl rfl (Nat.le_of_ble_eq_true rfl) dX7_gaps_20 rfl ⟨Nat.zero_le _, Nat.zero_le _⟩ (fun hr5 _ => ?_)
      refine V_if_ne (tgt := 29) (q := 26) hC hr5 dX7_gaps_23 (by decide) rfl (fun c6 => ?_) (fun c6 => ?_)
      · replace hf := (if_neg c6).symm.trans hf
        refine V_aload_n (k := 0) (q := 30) hC 0 rfl dX7_gaps_29 rfl ?_
        refine V_iload_n (k := 2) (q := 31) hC 2 rfl dX7_gaps_30 rfl ?_
        obtain ⟨r7, σ8, hc9, hf⟩ := cl_some hf
        refine V_cvi (st := []) (q := 34) (x0 := r7) (σ0 := σ8) hC (sX7_isMissing l hG h2 hs hc9) (cwV 1 hC.2.2.2.2.1 gX7_gaps_X7_isMissing rfl rfl rfl (by decide +kernel) ⟨Nat.le_of_ble_eq_true rfl, Nat.le_of_ble_eq_true rfl⟩) ⟨_, rfl, rfl⟩ iD7 (fun _ => ⟨_, rfl⟩) rfl rfl (Nat.le_of_ble_eq_true rfl) dX7_gaps_31 rfl ⟨Nat.zero_le _, Nat.zero_le _⟩ (fun hr10 hs11 => ?_)
        refine V_if_eq (tgt := 43) (q := 37) hC hr10 dX7_gaps_34 (by decide) rfl (fun c12 => ?_) (fun c12 => ?_)
        · replace hf := (if_pos c12).symm.trans hf
          refine V_aload_n (k := 0) (q := 44) hC 0 rfl dX7_gaps_43 rfl ?_
          refine V_iload_n (k := 2) (q := 45) hC 2 rfl dX7_gaps_44 rfl ?_
          refine V_iload_n (k := 3) (q := 46) hC 3 rfl dX7_gaps_45 rfl ?_
          refine V_iload (k := 4) (q := 48) hC 4 rfl dX7_gaps_46 rfl ?_
          obtain ⟨r13, σ14, hc15, hf⟩ := cl_some hf
          refine V_cvi (st := []) (q := 51) (x0 := r13) (σ0 := σ14) hC (sX7_isPart l hG h2 h3 h4 hs11 hc15) (cwV 3 hC.2.2.2.2.1 gX7_gaps_X7_isPart rfl rfl rfl (by decide +kernel) ⟨Nat.le_of_ble_eq_true rfl, Nat.le_of_ble_eq_true rfl⟩) ⟨_, rfl, rfl⟩ iD7 (fun _ => ⟨_, rfl⟩) rfl rfl (Nat.le_of_ble_eq_true rfl) dX7_gaps_48 rfl ⟨Nat.zero_le _, Nat.zero_le _⟩ (fun hr16 hs17 => ?_)
          refine V_if_ne (tgt := 60) (q := 54) hC hr16 dX7_gaps_51 (by decide) rfl (fun c18 => ?_) (fun c18 => ?_)
          · replace hf := (if_neg c18).symm.trans hf
            refine V_iconst (q := 61) hC dX7_gaps_60 rfl ?_
            refine V_istore (i := 5) (lv' := [(0, rf G 7 0), (1, iv v1), (2, iv v2), (3, iv v3), (4, iv v4), (5, iv 0)]) (q := 63) hC [1, 2, 3, 4, 5, 0] (by decide) rfl dX7_gaps_61 rfl ?_
            refine V_iconst (q := 64) hC dX7_gaps_63 rfl ?_
            refine V_istore (i := 6) (lv' := [(0, rf G 7 0), (1, iv v1), (2, iv v2), (3, iv v3), (4, iv v4), (5, iv 0), (6, iv 1)]) (q := 66) hC [1, 2, 3, 4, 5, 6, 0] (by decide) rfl dX7_gaps_64 rfl ?_
            refine V_lsub [0, 1, 2, 3, 4, 5, 6] rfl ?_
            exact (tlX7_gaps_66 hG hC hr hlk FU).1 hs17 h1 h2 h3 h4 (Rg_c rfl) (Rg_c rfl) hf
          · replace hf := (if_pos c18).symm.trans hf
            refine V_aload_n (k := 0) (q := 55) hC 0 rfl dX7_gaps_54 rfl ?_
            refine V_iconst (q := 56) hC dX7_gaps_55 rfl ?_
            obtain ⟨r19, σ20, hc21, hf⟩ := cl_some hf
            refine V_cvi (st := []) (q := 59) (x0 := r19) (σ0 := σ20) hC (sX7_found l hG (Rg_c rfl) hs17 hc21) (cwV 1 hC.2.2.2.2.1 gX7_gaps_X7_found rfl rfl rfl (by decide +kernel) ⟨Nat.le_of_ble_eq_true rfl, Nat.le_of_ble_eq_true rfl⟩) ⟨_, rfl, rfl⟩ iD7 (fun _ => ⟨_, rfl⟩) rfl rfl (Nat.le_of_ble_eq_true rfl) dX7_gaps_56 rfl ⟨Nat.zero_le _, Nat.zero_le _⟩ (fun hr22 hs23 => ?_)
            exact V_iret hC hr hlk (re_1 hf) (re_2 hf) hr22 hs23 dX7_gaps_59
        · replace hf := (if_neg c12).symm.trans hf
          refine V_aload_n (k := 0) (q := 38) hC 0 rfl dX7_gaps_37 rfl ?_
          refine V_iconst (q := 39) hC dX7_gaps_38 rfl ?_
          obtain ⟨r24, σ25, hc26, hf⟩ := cl_some hf
          refine V_cvi (st := []) (q := 42) (x0 := r24) (σ0 := σ25) hC (sX7_found l hG (Rg_c rfl) hs11 hc26) (cwV 1 hC.2.2.2.2.1 gX7_gaps_X7_found rfl rfl rfl (by decide +kernel) ⟨Nat.le_of_ble_eq_true rfl, Nat.le_of_ble_eq_true rfl⟩) ⟨_, rfl, rfl⟩ iD7 (fun _ => ⟨_, rfl⟩) rfl rfl (Nat.le_of_ble_eq_true rfl) dX7_gaps_39 rfl ⟨Nat.zero_le _, Nat.zero_le _⟩ (fun hr27 hs28 => ?_)
          exact V_iret hC hr hlk (re_1 hf) (re_2 hf) hr27 hs28 dX7_gaps_42
      · replace hf := (if_pos c6).symm.trans hf
        refine V_ldc (q := 28) (n := (-1000001)) hC (by decide) kX7_gaps_c61 dX7_gaps_26 rfl ?_
        exact V_iret hC hr hlk (re_1 hf) (re_2 hf) (Rg_c rfl) hs dX7_gaps_28
/-! X7_growsSo -/
theorem kX7_growsSo_f25 : Cond.fieldLink RX7 25 "BarkNamesModel" "now" "[I" ∈ wsX7_growsSo := by decide +kernel
theorem uX7_growsSo_7 : ∀ w ∈ u_ws RX7 TX7 22, w ∈ wsX7_growsSo := by decide +kernel
theorem kX7_growsSo_f16 : Cond.fieldLink RX7 16 "BarkNamesModel" "items" "[I" ∈ wsX7_growsSo := by decide +kernel
abbrev rmX7_growsSo : Room := { frames := 2, cells := 0, slots := 0, locals := 46 }
set_option maxHeartbeats 4000000 in
set_option maxRecDepth 100000 in
theorem tlX7_growsSo_20 {p : Program} {l : Launch} {e : Env} {s : State} {m : MethodId} {args : Array Value} {below : List Frame} {meth : Method} {c : Code} {G : GT} (hG : GI G) (hC : CX p s m args c cX7_growsSo 9 RX7 wsX7_growsSo G (AA G)) (hr : meth.sig.returnType = (some .boolean)) (hlk : meth.locks = false) {r0 : Int × Hp} : ∀ n : Nat, (∀ {σ : Hp} (hs : RgS σ) {v2 : Int} {v3 : Int} {v4 : Int} {v5 : Int} {v6 : Int} {v7 : Int} {v8 : Int} (h2 : Rg v2) (h3 : Rg v3) (h4 : Rg v4) (h5 : Rg v5) (h6 : Rg v6) (h7 : Rg v7) (h8 : Rg v8) (hf : lX7_growsSo_20 n σ v2 v3 v4 v5 v6 v7 v8 = some r0), VV p l e (headSpec wsX7_growsSo rmX7_growsSo).room s m args below meth c (MQ below (QI G r0.1 r0.2) args s 0 0 (AA G)) G (AA G) 0 0 9 σ 20 [(0, rf G 7 0), (2, iv v2), (3, iv v3), (4, iv v4), (5, iv v5), (6, iv v6), (7, iv v7), (8, iv v8)] []) := by
  intro n
  induction n with
  | zero =>
    exact by intro σ hs v2 v3 v4 v5 v6 v7 v8 h2 h3 h4 h5 h6 h7 h8 hf; exact absurd (show (none : Option (Int × Hp)) = some r0 from hf) (fun z => by cases z)
  | succ n ih =>
    intro σ hs v2 v3 v4 v5 v6 v7 v8 h2 h3 h4 h5 h6 h7 h8 hf
    replace hf := (lX7_growsSo_20_e0 n σ v2 v3 v4 v5 v6 v7 v8).symm.trans hf
    refine V_iload (k := 8) (q := 22) hC 7 rfl dX7_growsSo_20 rfl ?_
    refine V_iload (k := 5) (q := 24) hC 4 rfl dX7_growsSo_22 rfl ?_
    refine V_icmp_ge (tgt := 81) (q := 27) hC h8 h5 dX7_growsSo_24 (by decide) rfl (fun c2 => ?_) (fun c2 => ?_)
    · replace hf := (if_pos c2).symm.trans hf
      refine V_iload (k := 7) (q := 83) hC 6 rfl dX7_growsSo_81 rfl ?_
      obtain ⟨g3, hf⟩ := gd_some hf
      exact V_zret hC hr hlk g3 (re_1 hf) (re_2 hf) hs dX7_growsSo_83
    · replace hf := (if_neg c2).symm.trans hf
      refine V_iload (k := 6) (q := 29) hC 5 rfl dX7_growsSo_27 rfl ?_
      refine V_iload_n (k := 2) (q := 30) hC 1 rfl dX7_growsSo_29 rfl ?_
      refine V_iload_n (k := 3) (q := 31) hC 2 rfl dX7_growsSo_30 rfl ?_
      refine V_iload (k := 6) (q := 33) hC 5 rfl dX7_growsSo_31 rfl ?_
      refine V_aload_n (k := 0) (q := 34) hC 0 rfl dX7_growsSo_33 rfl ?_
      refine V_getf (T := TX7) (k := 13) (q := 37) hC uX7_growsSo_7 rfl iD7 rfl (by decide) kX7_growsSo_f25 rfl dX7_growsSo_34 rfl ?_
      refine V_iconst (q := 38) hC dX7_growsSo_37 rfl ?_
      refine V_iald (n := 48) (q := 39) hC iD27 rfl ⟨by decide, by decide⟩ (Rg_c rfl) dX7_growsSo_38 rfl ?_
      refine V_iload (k := 8) (q := 41) hC 7 rfl dX7_growsSo_39 rfl ?_
      refine V_iadd (q := 42) hC dX7_growsSo_41 rfl ?_
      refine V_csi (st := [iv v6]) (q := 45) hC (sX7_growth l hG h2 h3 h6 (Rg_wr _) hs) (va_cwS 4 hC.2.2.2.2.1 gX7_growsSo_X7_growth rfl rfl rfl (by decide +kernel) ⟨Nat.le_of_ble_eq_true rfl, Nat.le_of_ble_eq_true rfl⟩) rfl rfl (Nat.le_of_ble_eq_true rfl) dX7_growsSo_42 rfl ⟨Nat.zero_le _, Nat.zero_le _⟩ (fun hr4 _ => ?_)
      refine V_iadd (q := 46) hC dX7_growsSo_45 rfl ?_
      refine V_istore (i := 6) (lv' := [(0, rf G 7 0), (2, iv v2), (3, iv v3), (4, iv v4), (5, iv v5), (6, iv (wr (v6 + (fX7_growth v2 v3 v6 (wr ((σ 27 0 1) + v8)))))), (7, iv v7), (8, iv v8)]) (q := 48) hC [1, 2, 3, 4, 5, 0, 6, 7] (by decide) rfl dX7_growsSo_46 rfl ?_
      refine V_iload (k := 7) (q := 50) hC 6 rfl dX7_growsSo_48 rfl ?_
      refine V_if_eq (tgt := 72) (q := 53) hC h7 dX7_growsSo_50 (by decide) rfl (fun c5 => ?_) (fun c5 => ?_)
      · replace hf := (if_pos c5).symm.trans hf
        refine V_iconst (q := 73) hC dX7_growsSo_72 rfl ?_
        refine V_istore (i := 7) (lv' := [(0, rf G 7 0), (2, iv v2), (3, iv v3), (4, iv v4), (5, iv v5), (6, iv (wr (v6 + (fX7_growth v2 v3 v6 (wr ((σ 27 0 1) + v8)))))), (7, iv 0), (8, iv v8)]) (q := 75) hC [1, 2, 3, 4, 5, 6, 0, 7] (by decide) rfl dX7_growsSo_73 rfl ?_
        refine V_iinc (i := 8) (lv' := [(0, rf G 7 0), (2, iv v2), (3, iv v3), (4, iv v4), (5, iv v5), (6, iv (wr (v6 + (fX7_growth v2 v3 v6 (wr ((σ 27 0 1) + v8)))))), (7, iv 0), (8, iv (wr (v8 + 1)))]) (q := 78) hC 7 rfl [1, 2, 3, 4, 5, 6, 7, 0] (by decide) rfl dX7_growsSo_75 rfl ?_
        refine V_goto (tgt := 20) hC dX7_growsSo_78 (by decide) ?_
        refine V_lsub [0, 1, 2, 3, 4, 5, 6, 7] rfl ?_
        exact ih hs h2 h3 h4 h5 (Rg_wr _) (Rg_c rfl) (Rg_wr _) hf
      · replace hf := (if_neg c5).symm.trans hf
        refine V_aload_n (k := 0) (q := 54) hC 0 rfl dX7_growsSo_53 rfl ?_
        refine V_getf (T := TX7) (k := 2) (q := 57) hC uX7_growsSo_7 rfl iD7 rfl (by decide) kX7_growsSo_f16 rfl dX7_growsSo_54 rfl ?_
        refine V_iload (k := 4) (q := 59) hC 3 rfl dX7_growsSo_57 rfl ?_
        refine V_iload (k := 8) (q := 61) hC 7 rfl dX7_growsSo_59 rfl ?_
        refine V_iadd (q := 62) hC dX7_growsSo_61 rfl ?_
        obtain ⟨g6, hf⟩ := gd_some hf
        refine V_iald (n := 320) (q := 63) hC iD24 rfl g6 (Rg_wr _) dX7_growsSo_62 rfl ?_
        refine V_iload (k := 6) (q := 65) hC 5 rfl dX7_growsSo_63 rfl ?_
        refine V_icmp_ne (tgt := 72) (q := 68) hC (hs _ _ _) (Rg_wr _) dX7_growsSo_65 (by decide) rfl (fun c7 => ?_) (fun c7 => ?_)
        · replace hf := (if_neg c7).symm.trans hf
          refine V_iconst (q := 73) hC dX7_growsSo_72 rfl ?_
          refine V_istore (i := 7) (lv' := [(0, rf G 7 0), (2, iv v2), (3, iv v3), (4, iv v4), (5, iv v5), (6, iv (wr (v6 + (fX7_growth v2 v3 v6 (wr ((σ 27 0 1) + v8)))))), (7, iv 0), (8, iv v8)]) (q := 75) hC [1, 2, 3, 4, 5, 6, 0, 7] (by decide) rfl dX7_growsSo_73 rfl ?_
          refine V_iinc (i := 8) (lv' := [(0, rf G 7 0), (2, iv v2), (3, iv v3), (4, iv v4), (5, iv v5), (6, iv (wr (v6 + (fX7_growth v2 v3 v6 (wr ((σ 27 0 1) + v8)))))), (7, iv 0), (8, iv (wr (v8 + 1)))]) (q := 78) hC 7 rfl [1, 2, 3, 4, 5, 6, 7, 0] (by decide) rfl dX7_growsSo_75 rfl ?_
          refine V_goto (tgt := 20) hC dX7_growsSo_78 (by decide) ?_
          refine V_lsub [0, 1, 2, 3, 4, 5, 6, 7] rfl ?_
          exact ih hs h2 h3 h4 h5 (Rg_wr _) (Rg_c rfl) (Rg_wr _) hf
        · replace hf := (if_pos c7).symm.trans hf
          refine V_iconst (q := 69) hC dX7_growsSo_68 rfl ?_
          refine V_goto (tgt := 73) hC dX7_growsSo_69 (by decide) ?_
          refine V_istore (i := 7) (lv' := [(0, rf G 7 0), (2, iv v2), (3, iv v3), (4, iv v4), (5, iv v5), (6, iv (wr (v6 + (fX7_growth v2 v3 v6 (wr ((σ 27 0 1) + v8)))))), (7, iv 1), (8, iv v8)]) (q := 75) hC [1, 2, 3, 4, 5, 6, 0, 7] (by decide) rfl dX7_growsSo_73 rfl ?_
          refine V_iinc (i := 8) (lv' := [(0, rf G 7 0), (2, iv v2), (3, iv v3), (4, iv v4), (5, iv v5), (6, iv (wr (v6 + (fX7_growth v2 v3 v6 (wr ((σ 27 0 1) + v8)))))), (7, iv 1), (8, iv (wr (v8 + 1)))]) (q := 78) hC 7 rfl [1, 2, 3, 4, 5, 6, 7, 0] (by decide) rfl dX7_growsSo_75 rfl ?_
          refine V_goto (tgt := 20) hC dX7_growsSo_78 (by decide) ?_
          refine V_lsub [0, 1, 2, 3, 4, 5, 6, 7] rfl ?_
          exact ih hs h2 h3 h4 h5 (Rg_wr _) (Rg_c rfl) (Rg_wr _) hf
set_option maxHeartbeats 4000000 in
set_option maxRecDepth 100000 in
theorem sX7_growsSo (l : Launch) {G : GT} (hG : GI G) {v1 : Int} {v2 : Int} {v3 : Int} {v4 : Int} {v5 : Int} (h1 : Rg v1) (h2 : Rg v2) (h3 : Rg v3) (h4 : Rg v4) (h5 : Rg v5) {σ : Hp} (hs : RgS σ) {r0 : Int × Hp} (hf : fX7_growsSo σ v1 v2 v3 v4 v5 = some r0) : Cti l G yX7_growsSo wsX7_growsSo rmX7_growsSo [rf G 7 0, iv v1, iv v2, iv v3, iv v4, iv v5] σ r0.1 r0.2 := by
  unfold fX7_growsSo at hf
  refine Cti_start (lv := [(0, rf G 7 0), (1, iv v1), (2, iv v2), (3, iv v3), (4, iv v4), (5, iv v5)]) (ret := (some .boolean)) (by decide +kernel) rfl hG (Nat.le_of_ble_eq_true rfl) rfl (fun p e s m args below meth c hC hr hlk => ?_)
  refine V_aload_n (k := 0) (q := 1) hC 0 rfl dX7_growsSo_0 rfl ?_
  refine V_getf (T := TX7) (k := 13) (q := 4) hC uX7_growsSo_7 rfl iD7 rfl (by decide) kX7_growsSo_f25 rfl dX7_growsSo_1 rfl ?_
  refine V_iconst (q := 5) hC dX7_growsSo_4 rfl ?_
  refine V_iconst (q := 6) hC dX7_growsSo_5 rfl ?_
  refine V_iload_n (k := 1) (q := 7) hC 1 rfl dX7_growsSo_6 rfl ?_
  refine V_imul (q := 8) hC dX7_growsSo_7 rfl ?_
  refine V_iadd (q := 9) hC dX7_growsSo_8 rfl ?_
  refine V_iconst (q := 10) hC dX7_growsSo_9 rfl ?_
  refine V_iadd (q := 11) hC dX7_growsSo_10 rfl ?_
  obtain ⟨g1, hf⟩ := gd_some hf
  refine V_iald (n := 48) (q := 12) hC iD27 rfl g1 (Rg_wr _) dX7_growsSo_11 rfl ?_
  refine V_istore (i := 6) (lv' := [(0, rf G 7 0), (1, iv v1), (2, iv v2), (3, iv v3), (4, iv v4), (5, iv v5), (6, iv (σ 27 0 (wr ((wr (4 + (wr (3 * v1)))) + 1)).toNat))]) (q := 14) hC [1, 2, 3, 4, 5, 6, 0] (by decide) rfl dX7_growsSo_12 rfl ?_
  refine V_iconst (q := 15) hC dX7_growsSo_14 rfl ?_
  refine V_istore (i := 7) (lv' := [(0, rf G 7 0), (1, iv v1), (2, iv v2), (3, iv v3), (4, iv v4), (5, iv v5), (6, iv (σ 27 0 (wr ((wr (4 + (wr (3 * v1)))) + 1)).toNat)), (7, iv 1)]) (q := 17) hC [1, 2, 3, 4, 5, 6, 7, 0] (by decide) rfl dX7_growsSo_15 rfl ?_
  refine V_iconst (q := 18) hC dX7_growsSo_17 rfl ?_
  refine V_istore (i := 8) (lv' := [(0, rf G 7 0), (1, iv v1), (2, iv v2), (3, iv v3), (4, iv v4), (5, iv v5), (6, iv (σ 27 0 (wr ((wr (4 + (wr (3 * v1)))) + 1)).toNat)), (7, iv 1), (8, iv 0)]) (q := 20) hC [1, 2, 3, 4, 5, 6, 7, 8, 0] (by decide) rfl dX7_growsSo_18 rfl ?_
  refine V_lsub [0, 2, 3, 4, 5, 6, 7, 8] rfl ?_
  exact (tlX7_growsSo_20 hG hC hr hlk FU) hs h2 h3 h4 h5 (hs _ _ _) (Rg_c rfl) (Rg_c rfl) hf
/-! X7_which -/
theorem kX7_which_c61 : Cond.constant RX7 61 (-1000001) ∈ wsX7_which := by decide +kernel
theorem kX7_which_f25 : Cond.fieldLink RX7 25 "BarkNamesModel" "now" "[I" ∈ wsX7_which := by decide +kernel
theorem uX7_which_7 : ∀ w ∈ u_ws RX7 TX7 22, w ∈ wsX7_which := by decide +kernel
abbrev rmX7_which : Room := { frames := 3, cells := 0, slots := 0, locals := 74 }
set_option maxHeartbeats 4000000 in
set_option maxRecDepth 100000 in
theorem tlX7_which_76 {p : Program} {l : Launch} {e : Env} {s : State} {m : MethodId} {args : Array Value} {below : List Frame} {meth : Method} {c : Code} {G : GT} (hG : GI G) (hC : CX p s m args c cX7_which 11 RX7 wsX7_which G (AA G)) (hr : meth.sig.returnType = (some .int)) (hlk : meth.locks = false) {r0 : Int × Hp} : ∀ n : Nat, (∀ {σ : Hp} (hs : RgS σ) {v1 : Int} {v2 : Int} {v3 : Int} {v4 : Int} {v5 : Int} {v6 : Int} {v7 : Int} (h1 : Rg v1) (h2 : Rg v2) (h3 : Rg v3) (h4 : Rg v4) (h5 : Rg v5) (h6 : Rg v6) (h7 : Rg v7) (hf : lX7_which_76 n 0 σ v1 v2 v3 v4 v5 v6 v7 0 0 0 = some r0), VV p l e (headSpec wsX7_which rmX7_which).room s m args below meth c (MQ below (QI G r0.1 r0.2) args s 0 0 (AA G)) G (AA G) 0 0 11 σ 76 [(0, rf G 7 0), (1, iv v1), (2, iv v2), (3, iv v3), (4, iv v4), (5, iv v5), (6, iv v6), (7, iv v7)] []) ∧ (∀ {σ : Hp} (hs : RgS σ) {v1 : Int} {v2 : Int} {v3 : Int} {v4 : Int} {v5 : Int} {v6 : Int} {v7 : Int} {w0 : Int} (h1 : Rg v1) (h2 : Rg v2) (h3 : Rg v3) (h4 : Rg v4) (h5 : Rg v5) (h6 : Rg v6) (h7 : Rg v7) (hw0 : Rg w0) (hf : lX7_which_76 n 1 σ v1 v2 v3 v4 v5 v6 v7 w0 0 0 = some r0), VV p l e (headSpec wsX7_which rmX7_which).room s m args below meth c (MQ below (QI G r0.1 r0.2) args s 0 0 (AA G)) G (AA G) 0 0 11 σ 103 [(0, rf G 7 0), (1, iv v1), (2, iv v2), (3, iv v3), (4, iv v4), (5, iv v5), (6, iv v6), (7, iv v7)] [iv w0]) ∧ (∀ {σ : Hp} (hs : RgS σ) {v1 : Int} {v2 : Int} {v3 : Int} {v4 : Int} {v5 : Int} {v6 : Int} {v7 : Int} {v8 : Int} {w0 : Int} (h1 : Rg v1) (h2 : Rg v2) (h3 : Rg v3) (h4 : Rg v4) (h5 : Rg v5) (h6 : Rg v6) (h7 : Rg v7) (h8 : Rg v8) (hw0 : Rg w0) (hf : lX7_which_76 n 2 σ v1 v2 v3 v4 v5 v6 v7 w0 v8 0 = some r0), VV p l e (headSpec wsX7_which rmX7_which).room s m args below meth c (MQ below (QI G r0.1 r0.2) args s 0 0 (AA G)) G (AA G) 0 0 11 σ 127 [(0, rf G 7 0), (1, iv v1), (2, iv v2), (3, iv v3), (4, iv v4), (5, iv v5), (6, iv v6), (7, iv v7), (8, iv v8)] [iv w0]) ∧ (∀ {σ : Hp} (hs : RgS σ) {v1 : Int} {v2 : Int} {v3 : Int} {v4 : Int} {v5 : Int} {v6 : Int} {v7 : Int} {v8 : Int} {v9 : Int} {w0 : Int} (h1 : Rg v1) (h2 : Rg v2) (h3 : Rg v3) (h4 : Rg v4) (h5 : Rg v5) (h6 : Rg v6) (h7 : Rg v7) (h8 : Rg v8) (h9 : Rg v9) (hw0 : Rg w0) (hf : lX7_which_76 n 3 σ v1 v2 v3 v4 v5 v6 v7 w0 v8 v9 = some r0), VV p l e (headSpec wsX7_which rmX7_which).room s m args below meth c (MQ below (QI G r0.1 r0.2) args s 0 0 (AA G)) G (AA G) 0 0 11 σ 150 [(0, rf G 7 0), (1, iv v1), (2, iv v2), (3, iv v3), (4, iv v4), (5, iv v5), (6, iv v6), (7, iv v7), (8, iv v8), (9, iv v9)] [iv w0]) := by
  intro n
  induction n with
  | zero =>
    exact ⟨by intro σ hs v1 v2 v3 v4 v5 v6 v7 h1 h2 h3 h4 h5 h6 h7 hf; exact absurd (show (none : Option (Int × Hp)) = some r0 from hf) (fun z => by cases z), by intro σ hs v1 v2 v3 v4 v5 v6 v7 w0 h1 h2 h3 h4 h5 h6 h7 hw0 hf; exact absurd (show (none : Option (Int × Hp)) = some r0 from hf) (fun z => by cases z), by intro σ hs v1 v2 v3 v4 v5 v6 v7 v8 w0 h1 h2 h3 h4 h5 h6 h7 h8 hw0 hf; exact absurd (show (none : Option (Int × Hp)) = some r0 from hf) (fun z => by cases z), by intro σ hs v1 v2 v3 v4 v5 v6 v7 v8 v9 w0 h1 h2 h3 h4 h5 h6 h7 h8 h9 hw0 hf; exact absurd (show (none : Option (Int × Hp)) = some r0 from hf) (fun z => by cases z)⟩
  | succ n ih =>
    refine ⟨?_, ?_, ?_, ?_⟩
    · intro σ hs v1 v2 v3 v4 v5 v6 v7 h1 h2 h3 h4 h5 h6 h7 hf
      replace hf := (lX7_which_76_e0 n σ v1 v2 v3 v4 v5 v6 v7 0 0 0).symm.trans hf
      refine V_iload (k := 7) (q := 78) hC 7 rfl dX7_which_76 rfl ?_
      refine V_bipush (q := 80) hC (by decide) dX7_which_78 rfl ?_
      refine V_icmp_ge (tgt := 196) (q := 83) hC h7 (Rg_c rfl) dX7_which_80 (by decide) rfl (fun c31 => ?_) (fun c31 => ?_)
      · replace hf := (if_pos c31).symm.trans hf
        refine V_aload_n (k := 0) (q := 197) hC 0 rfl dX7_which_196 rfl ?_
        refine V_iload (k := 6) (q := 199) hC 6 rfl dX7_which_197 rfl ?_
        obtain ⟨r32, σ33, hc34, hf⟩ := cl_some hf
        refine V_cvi (st := []) (q := 202) (x0 := r32) (σ0 := σ33) hC (sX7_well l hG h6 hs hc34) (cwV 1 hC.2.2.2.2.1 gX7_which_X7_well rfl rfl rfl (by decide +kernel) ⟨Nat.le_of_ble_eq_true rfl, Nat.le_of_ble_eq_true rfl⟩) ⟨_, rfl, rfl⟩ iD7 (fun _ => ⟨_, rfl⟩) rfl rfl (Nat.le_of_ble_eq_true rfl) dX7_which_199 rfl ⟨Nat.zero_le _, Nat.zero_le _⟩ (fun hr35 hs36 => ?_)
        exact V_iret hC hr hlk (re_1 hf) (re_2 hf) hr35 hs36 dX7_which_202
      · replace hf := (if_neg c31).symm.trans hf
        refine V_iload (k := 5) (q := 85) hC 5 rfl dX7_which_83 rfl ?_
        refine V_if_ne (tgt := 93) (q := 88) hC h5 dX7_which_85 (by decide) rfl (fun c37 => ?_) (fun c37 => ?_)
        · replace hf := (if_neg c37).symm.trans hf
          refine V_aload_n (k := 0) (q := 94) hC 0 rfl dX7_which_93 rfl ?_
          refine V_getf (T := TX7) (k := 13) (q := 97) hC uX7_which_7 rfl iD7 rfl (by decide) kX7_which_f25 rfl dX7_which_94 rfl ?_
          refine V_iconst (q := 98) hC dX7_which_97 rfl ?_
          refine V_iconst (q := 99) hC dX7_which_98 rfl ?_
          refine V_iload_n (k := 1) (q := 100) hC 1 rfl dX7_which_99 rfl ?_
          refine V_imul (q := 101) hC dX7_which_100 rfl ?_
          refine V_iadd (q := 102) hC dX7_which_101 rfl ?_
          obtain ⟨g38, hf⟩ := gd_some hf
          refine V_iald (n := 48) (q := 103) hC iD27 rfl g38 (Rg_wr _) dX7_which_102 rfl ?_
          refine V_lsub [0, 1, 2, 3, 4, 5, 6, 7] rfl ?_
          exact ih.2.1 hs h1 h2 h3 h4 h5 h6 h7 (hs _ _ _) hf
        · replace hf := (if_pos c37).symm.trans hf
          refine V_iload (k := 7) (q := 90) hC 7 rfl dX7_which_88 rfl ?_
          refine V_goto (tgt := 103) hC dX7_which_90 (by decide) ?_
          refine V_lsub [0, 1, 2, 3, 4, 5, 6, 7] rfl ?_
          exact ih.2.1 hs h1 h2 h3 h4 h5 h6 h7 h7 hf
    · intro σ hs v1 v2 v3 v4 v5 v6 v7 w0 h1 h2 h3 h4 h5 h6 h7 hw0 hf
      replace hf := (lX7_which_76_e1 n σ v1 v2 v3 v4 v5 v6 v7 w0 0 0).symm.trans hf
      refine V_istore (i := 8) (lv' := [(0, rf G 7 0), (1, iv v1), (2, iv v2), (3, iv v3), (4, iv v4), (5, iv v5), (6, iv v6), (7, iv v7), (8, iv w0)]) (q := 105) hC [1, 2, 3, 4, 5, 6, 7, 8, 0] (by decide) rfl dX7_which_103 rfl ?_
      refine V_iload (k := 5) (q := 107) hC 5 rfl dX7_which_105 rfl ?_
      refine V_if_ne (tgt := 125) (q := 110) hC h5 dX7_which_107 (by decide) rfl (fun c39 => ?_) (fun c39 => ?_)
      · replace hf := (if_neg c39).symm.trans hf
        refine V_iload (k := 7) (q := 127) hC 7 rfl dX7_which_125 rfl ?_
        refine V_lsub [0, 1, 2, 3, 4, 5, 6, 7, 8] rfl ?_
        exact ih.2.2.1 hs h1 h2 h3 h4 h5 h6 h7 hw0 h7 hf
      · replace hf := (if_pos c39).symm.trans hf
        refine V_aload_n (k := 0) (q := 111) hC 0 rfl dX7_which_110 rfl ?_
        refine V_getf (T := TX7) (k := 13) (q := 114) hC uX7_which_7 rfl iD7 rfl (by decide) kX7_which_f25 rfl dX7_which_111 rfl ?_
        refine V_iconst (q := 115) hC dX7_which_114 rfl ?_
        refine V_iconst (q := 116) hC dX7_which_115 rfl ?_
        refine V_iload_n (k := 1) (q := 117) hC 1 rfl dX7_which_116 rfl ?_
        refine V_imul (q := 118) hC dX7_which_117 rfl ?_
        refine V_iadd (q := 119) hC dX7_which_118 rfl ?_
        refine V_iconst (q := 120) hC dX7_which_119 rfl ?_
        refine V_iadd (q := 121) hC dX7_which_120 rfl ?_
        obtain ⟨g40, hf⟩ := gd_some hf
        refine V_iald (n := 48) (q := 122) hC iD27 rfl g40 (Rg_wr _) dX7_which_121 rfl ?_
        refine V_goto (tgt := 127) hC dX7_which_122 (by decide) ?_
        refine V_lsub [0, 1, 2, 3, 4, 5, 6, 7, 8] rfl ?_
        exact ih.2.2.1 hs h1 h2 h3 h4 h5 h6 h7 hw0 (hs _ _ _) hf
    · intro σ hs v1 v2 v3 v4 v5 v6 v7 v8 w0 h1 h2 h3 h4 h5 h6 h7 h8 hw0 hf
      replace hf := (lX7_which_76_e2 n σ v1 v2 v3 v4 v5 v6 v7 w0 v8 0).symm.trans hf
      refine V_istore (i := 9) (lv' := [(0, rf G 7 0), (1, iv v1), (2, iv v2), (3, iv v3), (4, iv v4), (5, iv v5), (6, iv v6), (7, iv v7), (8, iv v8), (9, iv w0)]) (q := 129) hC [1, 2, 3, 4, 5, 6, 7, 8, 9, 0] (by decide) rfl dX7_which_127 rfl ?_
      refine V_iload (k := 5) (q := 131) hC 5 rfl dX7_which_129 rfl ?_
      refine V_iconst (q := 132) hC dX7_which_131 rfl ?_
      refine V_icmp_eq (tgt := 145) (q := 135) hC h5 (Rg_c rfl) dX7_which_132 (by decide) rfl (fun c41 => ?_) (fun c41 => ?_)
      · replace hf := (if_pos c41).symm.trans hf
        refine V_iconst (q := 146) hC dX7_which_145 rfl ?_
        refine V_goto (tgt := 150) hC dX7_which_146 (by decide) ?_
        refine V_lsub [0, 1, 2, 3, 4, 5, 6, 7, 8, 9] rfl ?_
        exact ih.2.2.2 hs h1 h2 h3 h4 h5 h6 h7 h8 hw0 (Rg_c rfl) hf
      · replace hf := (if_neg c41).symm.trans hf
        refine V_iload (k := 7) (q := 137) hC 7 rfl dX7_which_135 rfl ?_
        refine V_iconst (q := 138) hC dX7_which_137 rfl ?_
        refine V_iconst (q := 139) hC dX7_which_138 rfl ?_
        refine V_csi (st := []) (q := 142) hC (sX7_in l hG h7 (Rg_c rfl) (Rg_c rfl) hs) (va_cwS 3 hC.2.2.2.2.1 gX7_which_X7_in rfl rfl rfl (by decide +kernel) ⟨Nat.le_of_ble_eq_true rfl, Nat.le_of_ble_eq_true rfl⟩) rfl rfl (Nat.le_of_ble_eq_true rfl) dX7_which_139 rfl ⟨Nat.zero_le _, Nat.zero_le _⟩ (fun hr42 _ => ?_)
        refine V_if_eq (tgt := 149) (q := 145) hC hr42 dX7_which_142 (by decide) rfl (fun c43 => ?_) (fun c43 => ?_)
        · replace hf := (if_pos c43).symm.trans hf
          refine V_iconst (q := 150) hC dX7_which_149 rfl ?_
          refine V_lsub [0, 1, 2, 3, 4, 5, 6, 7, 8, 9] rfl ?_
          exact ih.2.2.2 hs h1 h2 h3 h4 h5 h6 h7 h8 hw0 (Rg_c rfl) hf
        · replace hf := (if_neg c43).symm.trans hf
          refine V_iconst (q := 146) hC dX7_which_145 rfl ?_
          refine V_goto (tgt := 150) hC dX7_which_146 (by decide) ?_
          refine V_lsub [0, 1, 2, 3, 4, 5, 6, 7, 8, 9] rfl ?_
          exact ih.2.2.2 hs h1 h2 h3 h4 h5 h6 h7 h8 hw0 (Rg_c rfl) hf
    · intro σ hs v1 v2 v3 v4 v5 v6 v7 v8 v9 w0 h1 h2 h3 h4 h5 h6 h7 h8 h9 hw0 hf
      replace hf := (lX7_which_76_e3 n σ v1 v2 v3 v4 v5 v6 v7 w0 v8 v9).symm.trans hf
      refine V_istore (i := 10) (lv' := [(0, rf G 7 0), (1, iv v1), (2, iv v2), (3, iv v3), (4, iv v4), (5, iv v5), (6, iv v6), (7, iv v7), (8, iv v8), (9, iv v9), (10, iv w0)]) (q := 152) hC [1, 2, 3, 4, 5, 6, 7, 8, 9, 10, 0] (by decide) rfl dX7_which_150 rfl ?_
      refine V_iload (k := 6) (q := 154) hC 6 rfl dX7_which_152 rfl ?_
      refine V_iload (k := 10) (q := 156) hC 10 rfl dX7_which_154 rfl ?_
      refine V_if_eq (tgt := 186) (q := 159) hC hw0 dX7_which_156 (by decide) rfl (fun c44 => ?_) (fun c44 => ?_)
      · replace hf := (if_pos c44).symm.trans hf
        refine V_iconst (q := 187) hC dX7_which_186 rfl ?_
        refine V_ior (q := 188) hC dX7_which_187 rfl ?_
        refine V_istore (i := 6) (lv' := [(0, rf G 7 0), (1, iv v1), (2, iv v2), (3, iv v3), (4, iv v4), (5, iv v5), (6, iv (qor v6 0)), (7, iv v7), (8, iv v8), (9, iv v9), (10, iv w0)]) (q := 190) hC [1, 2, 3, 4, 5, 6, 0, 7, 8, 9, 10] (by decide) rfl dX7_which_188 rfl ?_
        refine V_iinc (i := 7) (lv' := [(0, rf G 7 0), (1, iv v1), (2, iv v2), (3, iv v3), (4, iv v4), (5, iv v5), (6, iv (qor v6 0)), (7, iv (wr (v7 + 1))), (8, iv v8), (9, iv v9), (10, iv w0)]) (q := 193) hC 7 rfl [1, 2, 3, 4, 5, 6, 7, 0, 8, 9, 10] (by decide) rfl dX7_which_190 rfl ?_
        refine V_goto (tgt := 76) hC dX7_which_193 (by decide) ?_
        refine V_lsub [0, 1, 2, 3, 4, 5, 6, 7] rfl ?_
        exact ih.1 hs h1 h2 h3 h4 h5 (Rg_qor _ _) (Rg_wr _) hf
      · replace hf := (if_neg c44).symm.trans hf
        refine V_aload_n (k := 0) (q := 160) hC 0 rfl dX7_which_159 rfl ?_
        refine V_iload_n (k := 1) (q := 161) hC 1 rfl dX7_which_160 rfl ?_
        refine V_iload (k := 8) (q := 163) hC 8 rfl dX7_which_161 rfl ?_
        refine V_iload (k := 9) (q := 165) hC 9 rfl dX7_which_163 rfl ?_
        refine V_bipush (q := 167) hC (by decide) dX7_which_165 rfl ?_
        refine V_iload_n (k := 2) (q := 168) hC 2 rfl dX7_which_167 rfl ?_
        refine V_imul (q := 169) hC dX7_which_168 rfl ?_
        refine V_iload_n (k := 3) (q := 170) hC 3 rfl dX7_which_169 rfl ?_
        refine V_iadd (q := 171) hC dX7_which_170 rfl ?_
        refine V_iload (k := 4) (q := 173) hC 4 rfl dX7_which_171 rfl ?_
        obtain ⟨r45, σ46, hc47, hf⟩ := cl_some hf
        refine V_cvi (st := [iv v6]) (q := 176) (x0 := r45) (σ0 := σ46) hC (sX7_growsSo l hG h1 h8 h9 (Rg_wr _) h4 hs hc47) (cwV 5 hC.2.2.2.2.1 gX7_which_X7_growsSo rfl rfl rfl (by decide +kernel) ⟨Nat.le_of_ble_eq_true rfl, Nat.le_of_ble_eq_true rfl⟩) ⟨_, rfl, rfl⟩ iD7 (fun _ => ⟨_, rfl⟩) rfl rfl (Nat.le_of_ble_eq_true rfl) dX7_which_173 rfl ⟨Nat.zero_le _, Nat.zero_le _⟩ (fun hr48 hs49 => ?_)
        refine V_if_eq (tgt := 186) (q := 179) hC hr48 dX7_which_176 (by decide) rfl (fun c50 => ?_) (fun c50 => ?_)
        · replace hf := (if_pos c50).symm.trans hf
          refine V_iconst (q := 187) hC dX7_which_186 rfl ?_
          refine V_ior (q := 188) hC dX7_which_187 rfl ?_
          refine V_istore (i := 6) (lv' := [(0, rf G 7 0), (1, iv v1), (2, iv v2), (3, iv v3), (4, iv v4), (5, iv v5), (6, iv (qor v6 0)), (7, iv v7), (8, iv v8), (9, iv v9), (10, iv w0)]) (q := 190) hC [1, 2, 3, 4, 5, 6, 0, 7, 8, 9, 10] (by decide) rfl dX7_which_188 rfl ?_
          refine V_iinc (i := 7) (lv' := [(0, rf G 7 0), (1, iv v1), (2, iv v2), (3, iv v3), (4, iv v4), (5, iv v5), (6, iv (qor v6 0)), (7, iv (wr (v7 + 1))), (8, iv v8), (9, iv v9), (10, iv w0)]) (q := 193) hC 7 rfl [1, 2, 3, 4, 5, 6, 7, 0, 8, 9, 10] (by decide) rfl dX7_which_190 rfl ?_
          refine V_goto (tgt := 76) hC dX7_which_193 (by decide) ?_
          refine V_lsub [0, 1, 2, 3, 4, 5, 6, 7] rfl ?_
          exact ih.1 hs49 h1 h2 h3 h4 h5 (Rg_qor _ _) (Rg_wr _) hf
        · replace hf := (if_neg c50).symm.trans hf
          refine V_iconst (q := 180) hC dX7_which_179 rfl ?_
          refine V_iload (k := 7) (q := 182) hC 7 rfl dX7_which_180 rfl ?_
          refine V_ishl (q := 183) hC dX7_which_182 rfl ?_
          refine V_goto (tgt := 187) hC dX7_which_183 (by decide) ?_
          refine V_ior (q := 188) hC dX7_which_187 rfl ?_
          refine V_istore (i := 6) (lv' := [(0, rf G 7 0), (1, iv v1), (2, iv v2), (3, iv v3), (4, iv v4), (5, iv v5), (6, iv (qor v6 (qshl 1 v7))), (7, iv v7), (8, iv v8), (9, iv v9), (10, iv w0)]) (q := 190) hC [1, 2, 3, 4, 5, 6, 0, 7, 8, 9, 10] (by decide) rfl dX7_which_188 rfl ?_
          refine V_iinc (i := 7) (lv' := [(0, rf G 7 0), (1, iv v1), (2, iv v2), (3, iv v3), (4, iv v4), (5, iv v5), (6, iv (qor v6 (qshl 1 v7))), (7, iv (wr (v7 + 1))), (8, iv v8), (9, iv v9), (10, iv w0)]) (q := 193) hC 7 rfl [1, 2, 3, 4, 5, 6, 7, 0, 8, 9, 10] (by decide) rfl dX7_which_190 rfl ?_
          refine V_goto (tgt := 76) hC dX7_which_193 (by decide) ?_
          refine V_lsub [0, 1, 2, 3, 4, 5, 6, 7] rfl ?_
          exact ih.1 hs49 h1 h2 h3 h4 h5 (Rg_qor _ _) (Rg_wr _) hf
set_option maxHeartbeats 4000000 in
set_option maxRecDepth 100000 in
theorem sX7_which (l : Launch) {G : GT} (hG : GI G) {v1 : Int} {v2 : Int} {v3 : Int} {v4 : Int} {v5 : Int} (h1 : Rg v1) (h2 : Rg v2) (h3 : Rg v3) (h4 : Rg v4) (h5 : Rg v5) {σ : Hp} (hs : RgS σ) {r0 : Int × Hp} (hf : fX7_which σ v1 v2 v3 v4 v5 = some r0) : Cti l G yX7_which wsX7_which rmX7_which [rf G 7 0, iv v1, iv v2, iv v3, iv v4, iv v5] σ r0.1 r0.2 := by
  unfold fX7_which at hf
  refine Cti_start (lv := [(0, rf G 7 0), (1, iv v1), (2, iv v2), (3, iv v3), (4, iv v4), (5, iv v5)]) (ret := (some .int)) (by decide +kernel) rfl hG (Nat.le_of_ble_eq_true rfl) rfl (fun p e s m args below meth c hC hr hlk => ?_)
  refine V_aload_n (k := 0) (q := 1) hC 0 rfl dX7_which_0 rfl ?_
  refine V_iload_n (k := 1) (q := 2) hC 1 rfl dX7_which_1 rfl ?_
  refine V_cvi (st := []) (q := 5) hC (sX7_isTree l hG h1 hs) (cwV 1 hC.2.2.2.2.1 gX7_which_X7_isTree rfl rfl rfl (by decide +kernel) ⟨Nat.le_of_ble_eq_true rfl, Nat.le_of_ble_eq_true rfl⟩) ⟨_, rfl, rfl⟩ iD7 (fun _ => ⟨_, rfl⟩) rfl rfl (Nat.le_of_ble_eq_true rfl) dX7_which_2 rfl ⟨Nat.zero_le _, Nat.zero_le _⟩ (fun hr1 _ => ?_)
  refine V_if_eq (tgt := 36) (q := 8) hC hr1 dX7_which_5 (by decide) rfl (fun c2 => ?_) (fun c2 => ?_)
  · replace hf := (if_pos c2).symm.trans hf
    refine V_ldc (q := 38) (n := (-1000001)) hC (by decide) kX7_which_c61 dX7_which_36 rfl ?_
    exact V_iret hC hr hlk (re_1 hf) (re_2 hf) (Rg_c rfl) hs dX7_which_38
  · replace hf := (if_neg c2).symm.trans hf
    refine V_iload_n (k := 2) (q := 9) hC 2 rfl dX7_which_8 rfl ?_
    refine V_csi (st := []) (q := 12) hC (sX7_isRow l hG h2 hs) (va_cwS 1 hC.2.2.2.2.1 gX7_which_X7_isRow rfl rfl rfl (by decide +kernel) ⟨Nat.le_of_ble_eq_true rfl, Nat.le_of_ble_eq_true rfl⟩) rfl rfl (Nat.le_of_ble_eq_true rfl) dX7_which_9 rfl ⟨Nat.zero_le _, Nat.zero_le _⟩ (fun hr3 _ => ?_)
    refine V_if_eq (tgt := 36) (q := 15) hC hr3 dX7_which_12 (by decide) rfl (fun c4 => ?_) (fun c4 => ?_)
    · replace hf := (if_pos c4).symm.trans hf
      refine V_ldc (q := 38) (n := (-1000001)) hC (by decide) kX7_which_c61 dX7_which_36 rfl ?_
      exact V_iret hC hr hlk (re_1 hf) (re_2 hf) (Rg_c rfl) hs dX7_which_38
    · replace hf := (if_neg c4).symm.trans hf
      refine V_iload (k := 4) (q := 17) hC 4 rfl dX7_which_15 rfl ?_
      refine V_iconst (q := 18) hC dX7_which_17 rfl ?_
      refine V_bipush (q := 20) hC (by decide) dX7_which_18 rfl ?_
      refine V_csi (st := []) (q := 23) hC (sX7_in l hG h4 (Rg_c rfl) (Rg_c rfl) hs) (va_cwS 3 hC.2.2.2.2.1 gX7_which_X7_in rfl rfl rfl (by decide +kernel) ⟨Nat.le_of_ble_eq_true rfl, Nat.le_of_ble_eq_true rfl⟩) rfl rfl (Nat.le_of_ble_eq_true rfl) dX7_which_20 rfl ⟨Nat.zero_le _, Nat.zero_le _⟩ (fun hr5 _ => ?_)
      refine V_if_eq (tgt := 36) (q := 26) hC hr5 dX7_which_23 (by decide) rfl (fun c6 => ?_) (fun c6 => ?_)
      · replace hf := (if_pos c6).symm.trans hf
        refine V_ldc (q := 38) (n := (-1000001)) hC (by decide) kX7_which_c61 dX7_which_36 rfl ?_
        exact V_iret hC hr hlk (re_1 hf) (re_2 hf) (Rg_c rfl) hs dX7_which_38
      · replace hf := (if_neg c6).symm.trans hf
        refine V_iload (k := 5) (q := 28) hC 5 rfl dX7_which_26 rfl ?_
        refine V_iconst (q := 29) hC dX7_which_28 rfl ?_
        refine V_iconst (q := 30) hC dX7_which_29 rfl ?_
        refine V_csi (st := []) (q := 33) hC (sX7_in l hG h5 (Rg_c rfl) (Rg_c rfl) hs) (va_cwS 3 hC.2.2.2.2.1 gX7_which_X7_in rfl rfl rfl (by decide +kernel) ⟨Nat.le_of_ble_eq_true rfl, Nat.le_of_ble_eq_true rfl⟩) rfl rfl (Nat.le_of_ble_eq_true rfl) dX7_which_30 rfl ⟨Nat.zero_le _, Nat.zero_le _⟩ (fun hr7 _ => ?_)
        refine V_if_ne (tgt := 39) (q := 36) hC hr7 dX7_which_33 (by decide) rfl (fun c8 => ?_) (fun c8 => ?_)
        · replace hf := (if_neg c8).symm.trans hf
          refine V_aload_n (k := 0) (q := 40) hC 0 rfl dX7_which_39 rfl ?_
          refine V_iload_n (k := 2) (q := 41) hC 2 rfl dX7_which_40 rfl ?_
          obtain ⟨r9, σ10, hc11, hf⟩ := cl_some hf
          refine V_cvi (st := []) (q := 44) (x0 := r9) (σ0 := σ10) hC (sX7_isMissing l hG h2 hs hc11) (cwV 1 hC.2.2.2.2.1 gX7_which_X7_isMissing rfl rfl rfl (by decide +kernel) ⟨Nat.le_of_ble_eq_true rfl, Nat.le_of_ble_eq_true rfl⟩) ⟨_, rfl, rfl⟩ iD7 (fun _ => ⟨_, rfl⟩) rfl rfl (Nat.le_of_ble_eq_true rfl) dX7_which_41 rfl ⟨Nat.zero_le _, Nat.zero_le _⟩ (fun hr12 hs13 => ?_)
          refine V_if_eq (tgt := 53) (q := 47) hC hr12 dX7_which_44 (by decide) rfl (fun c14 => ?_) (fun c14 => ?_)
          · replace hf := (if_pos c14).symm.trans hf
            refine V_aload_n (k := 0) (q := 54) hC 0 rfl dX7_which_53 rfl ?_
            refine V_iload_n (k := 2) (q := 55) hC 2 rfl dX7_which_54 rfl ?_
            refine V_iload_n (k := 3) (q := 56) hC 3 rfl dX7_which_55 rfl ?_
            refine V_iload (k := 4) (q := 58) hC 4 rfl dX7_which_56 rfl ?_
            obtain ⟨r15, σ16, hc17, hf⟩ := cl_some hf
            refine V_cvi (st := []) (q := 61) (x0 := r15) (σ0 := σ16) hC (sX7_isPart l hG h2 h3 h4 hs13 hc17) (cwV 3 hC.2.2.2.2.1 gX7_which_X7_isPart rfl rfl rfl (by decide +kernel) ⟨Nat.le_of_ble_eq_true rfl, Nat.le_of_ble_eq_true rfl⟩) ⟨_, rfl, rfl⟩ iD7 (fun _ => ⟨_, rfl⟩) rfl rfl (Nat.le_of_ble_eq_true rfl) dX7_which_58 rfl ⟨Nat.zero_le _, Nat.zero_le _⟩ (fun hr18 hs19 => ?_)
            refine V_if_ne (tgt := 70) (q := 64) hC hr18 dX7_which_61 (by decide) rfl (fun c20 => ?_) (fun c20 => ?_)
            · replace hf := (if_neg c20).symm.trans hf
              refine V_iconst (q := 71) hC dX7_which_70 rfl ?_
              refine V_istore (i := 6) (lv' := [(0, rf G 7 0), (1, iv v1), (2, iv v2), (3, iv v3), (4, iv v4), (5, iv v5), (6, iv 0)]) (q := 73) hC [1, 2, 3, 4, 5, 6, 0] (by decide) rfl dX7_which_71 rfl ?_
              refine V_iconst (q := 74) hC dX7_which_73 rfl ?_
              refine V_istore (i := 7) (lv' := [(0, rf G 7 0), (1, iv v1), (2, iv v2), (3, iv v3), (4, iv v4), (5, iv v5), (6, iv 0), (7, iv 0)]) (q := 76) hC [1, 2, 3, 4, 5, 6, 7, 0] (by decide) rfl dX7_which_74 rfl ?_
              refine V_lsub [0, 1, 2, 3, 4, 5, 6, 7] rfl ?_
              exact (tlX7_which_76 hG hC hr hlk FU).1 hs19 h1 h2 h3 h4 h5 (Rg_c rfl) (Rg_c rfl) hf
            · replace hf := (if_pos c20).symm.trans hf
              refine V_aload_n (k := 0) (q := 65) hC 0 rfl dX7_which_64 rfl ?_
              refine V_iconst (q := 66) hC dX7_which_65 rfl ?_
              obtain ⟨r21, σ22, hc23, hf⟩ := cl_some hf
              refine V_cvi (st := []) (q := 69) (x0 := r21) (σ0 := σ22) hC (sX7_found l hG (Rg_c rfl) hs19 hc23) (cwV 1 hC.2.2.2.2.1 gX7_which_X7_found rfl rfl rfl (by decide +kernel) ⟨Nat.le_of_ble_eq_true rfl, Nat.le_of_ble_eq_true rfl⟩) ⟨_, rfl, rfl⟩ iD7 (fun _ => ⟨_, rfl⟩) rfl rfl (Nat.le_of_ble_eq_true rfl) dX7_which_66 rfl ⟨Nat.zero_le _, Nat.zero_le _⟩ (fun hr24 hs25 => ?_)
              exact V_iret hC hr hlk (re_1 hf) (re_2 hf) hr24 hs25 dX7_which_69
          · replace hf := (if_neg c14).symm.trans hf
            refine V_aload_n (k := 0) (q := 48) hC 0 rfl dX7_which_47 rfl ?_
            refine V_iconst (q := 49) hC dX7_which_48 rfl ?_
            obtain ⟨r26, σ27, hc28, hf⟩ := cl_some hf
            refine V_cvi (st := []) (q := 52) (x0 := r26) (σ0 := σ27) hC (sX7_found l hG (Rg_c rfl) hs13 hc28) (cwV 1 hC.2.2.2.2.1 gX7_which_X7_found rfl rfl rfl (by decide +kernel) ⟨Nat.le_of_ble_eq_true rfl, Nat.le_of_ble_eq_true rfl⟩) ⟨_, rfl, rfl⟩ iD7 (fun _ => ⟨_, rfl⟩) rfl rfl (Nat.le_of_ble_eq_true rfl) dX7_which_49 rfl ⟨Nat.zero_le _, Nat.zero_le _⟩ (fun hr29 hs30 => ?_)
            exact V_iret hC hr hlk (re_1 hf) (re_2 hf) hr29 hs30 dX7_which_52
        · replace hf := (if_pos c8).symm.trans hf
          refine V_ldc (q := 38) (n := (-1000001)) hC (by decide) kX7_which_c61 dX7_which_36 rfl ?_
          exact V_iret hC hr hlk (re_1 hf) (re_2 hf) (Rg_c rfl) hs dX7_which_38
/-! X7_storm -/
theorem kX7_storm_c61 : Cond.constant RX7 61 (-1000001) ∈ wsX7_storm := by decide +kernel
theorem kX7_storm_f25 : Cond.fieldLink RX7 25 "BarkNamesModel" "now" "[I" ∈ wsX7_storm := by decide +kernel
theorem uX7_storm_7 : ∀ w ∈ u_ws RX7 TX7 22, w ∈ wsX7_storm := by decide +kernel
abbrev rmX7_storm : Room := { frames := 4, cells := 0, slots := 0, locals := 94 }
set_option maxHeartbeats 4000000 in
set_option maxRecDepth 100000 in
theorem tlX7_storm_218 {p : Program} {l : Launch} {e : Env} {s : State} {m : MethodId} {args : Array Value} {below : List Frame} {meth : Method} {c : Code} {G : GT} (hG : GI G) (hC : CX p s m args c cX7_storm 11 RX7 wsX7_storm G (AA G)) (hr : meth.sig.returnType = (some .int)) (hlk : meth.locks = false) {r0 : Int × Hp} : ∀ n : Nat, (∀ {σ : Hp} (hs : RgS σ) {v4 : Int} {v6 : Int} {v7 : Int} {v8 : Int} {v9 : Int} (h4 : Rg v4) (h6 : Rg v6) (h7 : Rg v7) (h8 : Rg v8) (h9 : Rg v9) (hf : lX7_storm_218 n σ v4 v6 v7 v8 v9 = some r0), VV p l e (headSpec wsX7_storm rmX7_storm).room s m args below meth c (MQ below (QI G r0.1 r0.2) args s 0 0 (AA G)) G (AA G) 0 0 11 σ 218 [(4, iv v4), (6, iv v6), (7, iv v7), (8, iv v8), (9, iv v9)] []) := by
  intro n
  induction n with
  | zero =>
    exact by intro σ hs v4 v6 v7 v8 v9 h4 h6 h7 h8 h9 hf; exact absurd (show (none : Option (Int × Hp)) = some r0 from hf) (fun z => by cases z)
  | succ n ih =>
    intro σ hs v4 v6 v7 v8 v9 h4 h6 h7 h8 h9 hf
    replace hf := (lX7_storm_218_e0 n σ v4 v6 v7 v8 v9).symm.trans hf
    refine V_iload (k := 9) (q := 220) hC 4 rfl dX7_storm_218 rfl ?_
    refine V_if_eq (tgt := 241) (q := 223) hC h9 dX7_storm_220 (by decide) rfl (fun c33 => ?_) (fun c33 => ?_)
    · replace hf := (if_pos c33).symm.trans hf
      refine V_iload (k := 4) (q := 243) hC 0 rfl dX7_storm_241 rfl ?_
      refine V_if_ne (tgt := 251) (q := 246) hC h4 dX7_storm_243 (by decide) rfl (fun c34 => ?_) (fun c34 => ?_)
      · replace hf := (if_neg c34).symm.trans hf
        refine V_iload (k := 7) (q := 253) hC 2 rfl dX7_storm_251 rfl ?_
        refine V_iload (k := 8) (q := 255) hC 3 rfl dX7_storm_253 rfl ?_
        obtain ⟨g35, hf⟩ := gd_some hf
        refine V_idiv (q := 256) hC h7 h8 g35 dX7_storm_255 rfl ?_
        exact V_iret hC hr hlk (re_1 hf) (re_2 hf) (Rg_qdiv _ _) hs dX7_storm_256
      · replace hf := (if_pos c34).symm.trans hf
        refine V_iload (k := 6) (q := 248) hC 1 rfl dX7_storm_246 rfl ?_
        refine V_goto (tgt := 253) hC dX7_storm_248 (by decide) ?_
        refine V_iload (k := 8) (q := 255) hC 3 rfl dX7_storm_253 rfl ?_
        obtain ⟨g36, hf⟩ := gd_some hf
        refine V_idiv (q := 256) hC h6 h8 g36 dX7_storm_255 rfl ?_
        exact V_iret hC hr hlk (re_1 hf) (re_2 hf) (Rg_qdiv _ _) hs dX7_storm_256
    · replace hf := (if_neg c33).symm.trans hf
      refine V_iload (k := 8) (q := 225) hC 3 rfl dX7_storm_223 rfl ?_
      refine V_iload (k := 9) (q := 227) hC 4 rfl dX7_storm_225 rfl ?_
      obtain ⟨g37, hf⟩ := gd_some hf
      refine V_irem (q := 228) hC h8 h9 g37 dX7_storm_227 rfl ?_
      refine V_istore (i := 10) (lv' := [(4, iv v4), (6, iv v6), (7, iv v7), (8, iv v8), (9, iv v9), (10, iv (qrem v8 v9))]) (q := 230) hC [1, 2, 3, 4, 5, 0] (by decide) rfl dX7_storm_228 rfl ?_
      refine V_iload (k := 9) (q := 232) hC 4 rfl dX7_storm_230 rfl ?_
      refine V_istore (i := 8) (lv' := [(4, iv v4), (6, iv v6), (7, iv v7), (8, iv v9), (9, iv v9), (10, iv (qrem v8 v9))]) (q := 234) hC [1, 2, 3, 0, 4, 5] (by decide) rfl dX7_storm_232 rfl ?_
      refine V_iload (k := 10) (q := 236) hC 5 rfl dX7_storm_234 rfl ?_
      refine V_istore (i := 9) (lv' := [(4, iv v4), (6, iv v6), (7, iv v7), (8, iv v9), (9, iv (qrem v8 v9)), (10, iv (qrem v8 v9))]) (q := 238) hC [1, 2, 3, 4, 0, 5] (by decide) rfl dX7_storm_236 rfl ?_
      refine V_goto (tgt := 218) hC dX7_storm_238 (by decide) ?_
      refine V_lsub [0, 1, 2, 3, 4] rfl ?_
      exact ih hs h4 h6 h7 h9 (Rg_qrem _ _) hf
set_option maxHeartbeats 4000000 in
set_option maxRecDepth 100000 in
theorem tlX7_storm_102 {p : Program} {l : Launch} {e : Env} {s : State} {m : MethodId} {args : Array Value} {below : List Frame} {meth : Method} {c : Code} {G : GT} (hG : GI G) (hC : CX p s m args c cX7_storm 11 RX7 wsX7_storm G (AA G)) (hr : meth.sig.returnType = (some .int)) (hlk : meth.locks = false) {r0 : Int × Hp} : ∀ n : Nat, (∀ {σ : Hp} (hs : RgS σ) {v1 : Int} {v2 : Int} {v3 : Int} {v4 : Int} {v5 : Int} {v6 : Int} {v7 : Int} {v8 : Int} (h1 : Rg v1) (h2 : Rg v2) (h3 : Rg v3) (h4 : Rg v4) (h5 : Rg v5) (h6 : Rg v6) (h7 : Rg v7) (h8 : Rg v8) (hf : lX7_storm_102 n 0 σ v1 v2 v3 v4 v5 v6 v7 v8 0 0 = some r0), VV p l e (headSpec wsX7_storm rmX7_storm).room s m args below meth c (MQ below (QI G r0.1 r0.2) args s 0 0 (AA G)) G (AA G) 0 0 11 σ 102 [(0, rf G 7 0), (1, iv v1), (2, iv v2), (3, iv v3), (4, iv v4), (5, iv v5), (6, iv v6), (7, iv v7), (8, iv v8)] []) ∧ (∀ {σ : Hp} (hs : RgS σ) {v1 : Int} {v2 : Int} {v3 : Int} {v4 : Int} {v5 : Int} {v6 : Int} {v7 : Int} {v8 : Int} {v9 : Int} {v10 : Int} (h1 : Rg v1) (h2 : Rg v2) (h3 : Rg v3) (h4 : Rg v4) (h5 : Rg v5) (h6 : Rg v6) (h7 : Rg v7) (h8 : Rg v8) (h9 : Rg v9) (h10 : Rg v10) (hf : lX7_storm_102 n 1 σ v1 v2 v3 v4 v5 v6 v7 v8 v9 v10 = some r0), VV p l e (headSpec wsX7_storm rmX7_storm).room s m args below meth c (MQ below (QI G r0.1 r0.2) args s 0 0 (AA G)) G (AA G) 0 0 11 σ 143 [(0, rf G 7 0), (1, iv v1), (2, iv v2), (3, iv v3), (4, iv v4), (5, iv v5), (6, iv v6), (7, iv v7), (8, iv v8), (9, iv v9), (10, iv v10)] []) := by
  intro n
  induction n with
  | zero =>
    exact ⟨by intro σ hs v1 v2 v3 v4 v5 v6 v7 v8 h1 h2 h3 h4 h5 h6 h7 h8 hf; exact absurd (show (none : Option (Int × Hp)) = some r0 from hf) (fun z => by cases z), by intro σ hs v1 v2 v3 v4 v5 v6 v7 v8 v9 v10 h1 h2 h3 h4 h5 h6 h7 h8 h9 h10 hf; exact absurd (show (none : Option (Int × Hp)) = some r0 from hf) (fun z => by cases z)⟩
  | succ n ih =>
    refine ⟨?_, ?_⟩
    · intro σ hs v1 v2 v3 v4 v5 v6 v7 v8 h1 h2 h3 h4 h5 h6 h7 h8 hf
      replace hf := (lX7_storm_102_e0 n σ v1 v2 v3 v4 v5 v6 v7 v8 0 0).symm.trans hf
      refine V_iload (k := 8) (q := 104) hC 8 rfl dX7_storm_102 rfl ?_
      refine V_iload (k := 5) (q := 106) hC 5 rfl dX7_storm_104 rfl ?_
      refine V_icmp_gt (tgt := 210) (q := 109) hC h8 h5 dX7_storm_106 (by decide) rfl (fun c20 => ?_) (fun c20 => ?_)
      · replace hf := (if_pos c20).symm.trans hf
        refine V_iload (k := 6) (q := 212) hC 6 rfl dX7_storm_210 rfl ?_
        refine V_istore (i := 8) (lv' := [(0, rf G 7 0), (1, iv v1), (2, iv v2), (3, iv v3), (4, iv v4), (5, iv v5), (6, iv v6), (7, iv v7), (8, iv v6)]) (q := 214) hC [1, 2, 3, 4, 5, 6, 7, 8, 0] (by decide) rfl dX7_storm_212 rfl ?_
        refine V_iload (k := 7) (q := 216) hC 7 rfl dX7_storm_214 rfl ?_
        refine V_istore (i := 9) (lv' := [(0, rf G 7 0), (1, iv v1), (2, iv v2), (3, iv v3), (4, iv v4), (5, iv v5), (6, iv v6), (7, iv v7), (8, iv v6), (9, iv v7)]) (q := 218) hC [1, 2, 3, 4, 5, 6, 7, 8, 9, 0] (by decide) rfl dX7_storm_216 rfl ?_
        refine V_lsub [4, 6, 7, 8, 9] rfl ?_
        exact (tlX7_storm_218 hG hC hr hlk FU) hs h4 h6 h7 h6 h7 hf
      · replace hf := (if_neg c20).symm.trans hf
        refine V_iload (k := 8) (q := 111) hC 8 rfl dX7_storm_109 rfl ?_
        refine V_iload (k := 5) (q := 113) hC 5 rfl dX7_storm_111 rfl ?_
        refine V_iconst (q := 114) hC dX7_storm_113 rfl ?_
        refine V_ixor (q := 115) hC dX7_storm_114 rfl ?_
        refine V_iand (q := 116) hC dX7_storm_115 rfl ?_
        refine V_if_ne (tgt := 137) (q := 119) hC (Rg_qand _ _) dX7_storm_116 (by decide) rfl (fun c21 => ?_) (fun c21 => ?_)
        · replace hf := (if_neg c21).symm.trans hf
          refine V_iconst (q := 138) hC dX7_storm_137 rfl ?_
          refine V_istore (i := 9) (lv' := [(0, rf G 7 0), (1, iv v1), (2, iv v2), (3, iv v3), (4, iv v4), (5, iv v5), (6, iv v6), (7, iv v7), (8, iv v8), (9, iv 0)]) (q := 140) hC [1, 2, 3, 4, 5, 6, 7, 8, 9, 0] (by decide) rfl dX7_storm_138 rfl ?_
          refine V_iconst (q := 141) hC dX7_storm_140 rfl ?_
          refine V_istore (i := 10) (lv' := [(0, rf G 7 0), (1, iv v1), (2, iv v2), (3, iv v3), (4, iv v4), (5, iv v5), (6, iv v6), (7, iv v7), (8, iv v8), (9, iv 0), (10, iv 0)]) (q := 143) hC [1, 2, 3, 4, 5, 6, 7, 8, 9, 10, 0] (by decide) rfl dX7_storm_141 rfl ?_
          refine V_lsub [0, 1, 2, 3, 4, 5, 6, 7, 8, 9, 10] rfl ?_
          exact ih.2 hs h1 h2 h3 h4 h5 h6 h7 h8 (Rg_c rfl) (Rg_c rfl) hf
        · replace hf := (if_pos c21).symm.trans hf
          refine V_aload_n (k := 0) (q := 120) hC 0 rfl dX7_storm_119 rfl ?_
          refine V_getf (T := TX7) (k := 13) (q := 123) hC uX7_storm_7 rfl iD7 rfl (by decide) kX7_storm_f25 rfl dX7_storm_120 rfl ?_
          refine V_iload_n (k := 1) (q := 124) hC 1 rfl dX7_storm_123 rfl ?_
          refine V_iload_n (k := 2) (q := 125) hC 2 rfl dX7_storm_124 rfl ?_
          refine V_iload (k := 8) (q := 127) hC 8 rfl dX7_storm_125 rfl ?_
          obtain ⟨r22, σ23, hc24, hf⟩ := cl_some hf
          refine V_csi (st := []) (q := 130) (x0 := r22) (σ0 := σ23) hC (sX7_areTogether l hG iD27 h1 h2 h8 hs hc24) (va_cwS 4 hC.2.2.2.2.1 gX7_storm_X7_areTogether rfl rfl rfl (by decide +kernel) ⟨Nat.le_of_ble_eq_true rfl, Nat.le_of_ble_eq_true rfl⟩) rfl rfl (Nat.le_of_ble_eq_true rfl) dX7_storm_127 rfl ⟨Nat.zero_le _, Nat.zero_le _⟩ (fun hr25 hs26 => ?_)
          refine V_if_eq (tgt := 137) (q := 133) hC hr25 dX7_storm_130 (by decide) rfl (fun c27 => ?_) (fun c27 => ?_)
          · replace hf := (if_pos c27).symm.trans hf
            refine V_iconst (q := 138) hC dX7_storm_137 rfl ?_
            refine V_istore (i := 9) (lv' := [(0, rf G 7 0), (1, iv v1), (2, iv v2), (3, iv v3), (4, iv v4), (5, iv v5), (6, iv v6), (7, iv v7), (8, iv v8), (9, iv 0)]) (q := 140) hC [1, 2, 3, 4, 5, 6, 7, 8, 9, 0] (by decide) rfl dX7_storm_138 rfl ?_
            refine V_iconst (q := 141) hC dX7_storm_140 rfl ?_
            refine V_istore (i := 10) (lv' := [(0, rf G 7 0), (1, iv v1), (2, iv v2), (3, iv v3), (4, iv v4), (5, iv v5), (6, iv v6), (7, iv v7), (8, iv v8), (9, iv 0), (10, iv 0)]) (q := 143) hC [1, 2, 3, 4, 5, 6, 7, 8, 9, 10, 0] (by decide) rfl dX7_storm_141 rfl ?_
            refine V_lsub [0, 1, 2, 3, 4, 5, 6, 7, 8, 9, 10] rfl ?_
            exact ih.2 hs26 h1 h2 h3 h4 h5 h6 h7 h8 (Rg_c rfl) (Rg_c rfl) hf
          · replace hf := (if_neg c27).symm.trans hf
            refine V_iconst (q := 134) hC dX7_storm_133 rfl ?_
            refine V_goto (tgt := 138) hC dX7_storm_134 (by decide) ?_
            refine V_istore (i := 9) (lv' := [(0, rf G 7 0), (1, iv v1), (2, iv v2), (3, iv v3), (4, iv v4), (5, iv v5), (6, iv v6), (7, iv v7), (8, iv v8), (9, iv 1)]) (q := 140) hC [1, 2, 3, 4, 5, 6, 7, 8, 9, 0] (by decide) rfl dX7_storm_138 rfl ?_
            refine V_iconst (q := 141) hC dX7_storm_140 rfl ?_
            refine V_istore (i := 10) (lv' := [(0, rf G 7 0), (1, iv v1), (2, iv v2), (3, iv v3), (4, iv v4), (5, iv v5), (6, iv v6), (7, iv v7), (8, iv v8), (9, iv 1), (10, iv 0)]) (q := 143) hC [1, 2, 3, 4, 5, 6, 7, 8, 9, 10, 0] (by decide) rfl dX7_storm_141 rfl ?_
            refine V_lsub [0, 1, 2, 3, 4, 5, 6, 7, 8, 9, 10] rfl ?_
            exact ih.2 hs26 h1 h2 h3 h4 h5 h6 h7 h8 (Rg_c rfl) (Rg_c rfl) hf
    · intro σ hs v1 v2 v3 v4 v5 v6 v7 v8 v9 v10 h1 h2 h3 h4 h5 h6 h7 h8 h9 h10 hf
      replace hf := (lX7_storm_102_e1 n σ v1 v2 v3 v4 v5 v6 v7 v8 v9 v10).symm.trans hf
      refine V_iload (k := 10) (q := 145) hC 10 rfl dX7_storm_143 rfl ?_
      refine V_aload_n (k := 0) (q := 146) hC 0 rfl dX7_storm_145 rfl ?_
      refine V_getf (T := TX7) (k := 13) (q := 149) hC uX7_storm_7 rfl iD7 rfl (by decide) kX7_storm_f25 rfl dX7_storm_146 rfl ?_
      refine V_iconst (q := 150) hC dX7_storm_149 rfl ?_
      refine V_iald (n := 48) (q := 151) hC iD27 rfl ⟨by decide, by decide⟩ (Rg_c rfl) dX7_storm_150 rfl ?_
      refine V_icmp_ge (tgt := 197) (q := 154) hC h10 (hs _ _ _) dX7_storm_151 (by decide) rfl (fun c28 => ?_) (fun c28 => ?_)
      · replace hf := (if_pos c28).symm.trans hf
        refine V_iload (k := 6) (q := 199) hC 6 rfl dX7_storm_197 rfl ?_
        refine V_iload (k := 9) (q := 201) hC 9 rfl dX7_storm_199 rfl ?_
        refine V_iadd (q := 202) hC dX7_storm_201 rfl ?_
        refine V_istore (i := 6) (lv' := [(0, rf G 7 0), (1, iv v1), (2, iv v2), (3, iv v3), (4, iv v4), (5, iv v5), (6, iv (wr (v6 + v9))), (7, iv v7), (8, iv v8), (9, iv v9), (10, iv v10)]) (q := 204) hC [1, 2, 3, 4, 5, 6, 0, 7, 8, 9, 10] (by decide) rfl dX7_storm_202 rfl ?_
        refine V_iinc (i := 8) (lv' := [(0, rf G 7 0), (1, iv v1), (2, iv v2), (3, iv v3), (4, iv v4), (5, iv v5), (6, iv (wr (v6 + v9))), (7, iv v7), (8, iv (wr (v8 + 1))), (9, iv v9), (10, iv v10)]) (q := 207) hC 8 rfl [1, 2, 3, 4, 5, 6, 7, 8, 0, 9, 10] (by decide) rfl dX7_storm_204 rfl ?_
        refine V_goto (tgt := 102) hC dX7_storm_207 (by decide) ?_
        refine V_lsub [0, 1, 2, 3, 4, 5, 6, 7, 8] rfl ?_
        exact ih.1 hs h1 h2 h3 h4 h5 (Rg_wr _) h7 (Rg_wr _) hf
      · replace hf := (if_neg c28).symm.trans hf
        refine V_iload (k := 9) (q := 156) hC 9 rfl dX7_storm_154 rfl ?_
        refine V_iload (k := 5) (q := 158) hC 5 rfl dX7_storm_156 rfl ?_
        refine V_iload (k := 10) (q := 160) hC 10 rfl dX7_storm_158 rfl ?_
        refine V_csi (st := [iv v9]) (q := 163) hC (sX7_has l hG h5 h10 hs) (va_cwS 2 hC.2.2.2.2.1 gX7_storm_X7_has rfl rfl rfl (by decide +kernel) ⟨Nat.le_of_ble_eq_true rfl, Nat.le_of_ble_eq_true rfl⟩) rfl rfl (Nat.le_of_ble_eq_true rfl) dX7_storm_160 rfl ⟨Nat.zero_le _, Nat.zero_le _⟩ (fun hr29 _ => ?_)
        refine V_if_ne (tgt := 170) (q := 166) hC hr29 dX7_storm_163 (by decide) rfl (fun c30 => ?_) (fun c30 => ?_)
        · replace hf := (if_neg c30).symm.trans hf
          refine V_iload (k := 8) (q := 172) hC 8 rfl dX7_storm_170 rfl ?_
          refine V_iload (k := 10) (q := 174) hC 10 rfl dX7_storm_172 rfl ?_
          refine V_csi (st := [iv v9]) (q := 177) hC (sX7_has l hG h8 h10 hs) (va_cwS 2 hC.2.2.2.2.1 gX7_storm_X7_has rfl rfl rfl (by decide +kernel) ⟨Nat.le_of_ble_eq_true rfl, Nat.le_of_ble_eq_true rfl⟩) rfl rfl (Nat.le_of_ble_eq_true rfl) dX7_storm_174 rfl ⟨Nat.zero_le _, Nat.zero_le _⟩ (fun hr31 _ => ?_)
          refine V_if_eq (tgt := 184) (q := 180) hC hr31 dX7_storm_177 (by decide) rfl (fun c32 => ?_) (fun c32 => ?_)
          · replace hf := (if_pos c32).symm.trans hf
            refine V_bipush (q := 186) hC (by decide) dX7_storm_184 rfl ?_
            refine V_iload_n (k := 3) (q := 187) hC 3 rfl dX7_storm_186 rfl ?_
            refine V_isub (q := 188) hC dX7_storm_187 rfl ?_
            refine V_imul (q := 189) hC dX7_storm_188 rfl ?_
            refine V_istore (i := 9) (lv' := [(0, rf G 7 0), (1, iv v1), (2, iv v2), (3, iv v3), (4, iv v4), (5, iv v5), (6, iv v6), (7, iv v7), (8, iv v8), (9, iv (wr (v9 * (wr (10 - v3))))), (10, iv v10)]) (q := 191) hC [1, 2, 3, 4, 5, 6, 7, 8, 9, 0, 10] (by decide) rfl dX7_storm_189 rfl ?_
            refine V_iinc (i := 10) (lv' := [(0, rf G 7 0), (1, iv v1), (2, iv v2), (3, iv v3), (4, iv v4), (5, iv v5), (6, iv v6), (7, iv v7), (8, iv v8), (9, iv (wr (v9 * (wr (10 - v3))))), (10, iv (wr (v10 + 1)))]) (q := 194) hC 10 rfl [1, 2, 3, 4, 5, 6, 7, 8, 9, 10, 0] (by decide) rfl dX7_storm_191 rfl ?_
            refine V_goto (tgt := 143) hC dX7_storm_194 (by decide) ?_
            refine V_lsub [0, 1, 2, 3, 4, 5, 6, 7, 8, 9, 10] rfl ?_
            exact ih.2 hs h1 h2 h3 h4 h5 h6 h7 h8 (Rg_wr _) (Rg_wr _) hf
          · replace hf := (if_neg c32).symm.trans hf
            refine V_iload_n (k := 3) (q := 181) hC 3 rfl dX7_storm_180 rfl ?_
            refine V_goto (tgt := 188) hC dX7_storm_181 (by decide) ?_
            refine V_imul (q := 189) hC dX7_storm_188 rfl ?_
            refine V_istore (i := 9) (lv' := [(0, rf G 7 0), (1, iv v1), (2, iv v2), (3, iv v3), (4, iv v4), (5, iv v5), (6, iv v6), (7, iv v7), (8, iv v8), (9, iv (wr (v9 * v3))), (10, iv v10)]) (q := 191) hC [1, 2, 3, 4, 5, 6, 7, 8, 9, 0, 10] (by decide) rfl dX7_storm_189 rfl ?_
            refine V_iinc (i := 10) (lv' := [(0, rf G 7 0), (1, iv v1), (2, iv v2), (3, iv v3), (4, iv v4), (5, iv v5), (6, iv v6), (7, iv v7), (8, iv v8), (9, iv (wr (v9 * v3))), (10, iv (wr (v10 + 1)))]) (q := 194) hC 10 rfl [1, 2, 3, 4, 5, 6, 7, 8, 9, 10, 0] (by decide) rfl dX7_storm_191 rfl ?_
            refine V_goto (tgt := 143) hC dX7_storm_194 (by decide) ?_
            refine V_lsub [0, 1, 2, 3, 4, 5, 6, 7, 8, 9, 10] rfl ?_
            exact ih.2 hs h1 h2 h3 h4 h5 h6 h7 h8 (Rg_wr _) (Rg_wr _) hf
        · replace hf := (if_pos c30).symm.trans hf
          refine V_iconst (q := 167) hC dX7_storm_166 rfl ?_
          refine V_goto (tgt := 188) hC dX7_storm_167 (by decide) ?_
          refine V_imul (q := 189) hC dX7_storm_188 rfl ?_
          refine V_istore (i := 9) (lv' := [(0, rf G 7 0), (1, iv v1), (2, iv v2), (3, iv v3), (4, iv v4), (5, iv v5), (6, iv v6), (7, iv v7), (8, iv v8), (9, iv (wr (v9 * 1))), (10, iv v10)]) (q := 191) hC [1, 2, 3, 4, 5, 6, 7, 8, 9, 0, 10] (by decide) rfl dX7_storm_189 rfl ?_
          refine V_iinc (i := 10) (lv' := [(0, rf G 7 0), (1, iv v1), (2, iv v2), (3, iv v3), (4, iv v4), (5, iv v5), (6, iv v6), (7, iv v7), (8, iv v8), (9, iv (wr (v9 * 1))), (10, iv (wr (v10 + 1)))]) (q := 194) hC 10 rfl [1, 2, 3, 4, 5, 6, 7, 8, 9, 10, 0] (by decide) rfl dX7_storm_191 rfl ?_
          refine V_goto (tgt := 143) hC dX7_storm_194 (by decide) ?_
          refine V_lsub [0, 1, 2, 3, 4, 5, 6, 7, 8, 9, 10] rfl ?_
          exact ih.2 hs h1 h2 h3 h4 h5 h6 h7 h8 (Rg_wr _) (Rg_wr _) hf
set_option maxHeartbeats 4000000 in
set_option maxRecDepth 100000 in
theorem tlX7_storm_61 {p : Program} {l : Launch} {e : Env} {s : State} {m : MethodId} {args : Array Value} {below : List Frame} {meth : Method} {c : Code} {G : GT} (hG : GI G) (hC : CX p s m args c cX7_storm 11 RX7 wsX7_storm G (AA G)) (hr : meth.sig.returnType = (some .int)) (hlk : meth.locks = false) {r0 : Int × Hp} : ∀ n : Nat, (∀ {σ : Hp} (hs : RgS σ) {v1 : Int} {v2 : Int} {v3 : Int} {v4 : Int} {v5 : Int} {v6 : Int} {v7 : Int} {v8 : Int} (h1 : Rg v1) (h2 : Rg v2) (h3 : Rg v3) (h4 : Rg v4) (h5 : Rg v5) (h6 : Rg v6) (h7 : Rg v7) (h8 : Rg v8) (hf : lX7_storm_61 n σ v1 v2 v3 v4 v5 v6 v7 v8 = some r0), VV p l e (headSpec wsX7_storm rmX7_storm).room s m args below meth c (MQ below (QI G r0.1 r0.2) args s 0 0 (AA G)) G (AA G) 0 0 11 σ 61 [(0, rf G 7 0), (1, iv v1), (2, iv v2), (3, iv v3), (4, iv v4), (5, iv v5), (6, iv v6), (7, iv v7), (8, iv v8)] []) := by
  intro n
  induction n with
  | zero =>
    exact by intro σ hs v1 v2 v3 v4 v5 v6 v7 v8 h1 h2 h3 h4 h5 h6 h7 h8 hf; exact absurd (show (none : Option (Int × Hp)) = some r0 from hf) (fun z => by cases z)
  | succ n ih =>
    intro σ hs v1 v2 v3 v4 v5 v6 v7 v8 h1 h2 h3 h4 h5 h6 h7 h8 hf
    replace hf := (lX7_storm_61_e0 n σ v1 v2 v3 v4 v5 v6 v7 v8).symm.trans hf
    refine V_iload (k := 8) (q := 63) hC 8 rfl dX7_storm_61 rfl ?_
    refine V_aload_n (k := 0) (q := 64) hC 0 rfl dX7_storm_63 rfl ?_
    refine V_getf (T := TX7) (k := 13) (q := 67) hC uX7_storm_7 rfl iD7 rfl (by decide) kX7_storm_f25 rfl dX7_storm_64 rfl ?_
    refine V_iconst (q := 68) hC dX7_storm_67 rfl ?_
    refine V_iald (n := 48) (q := 69) hC iD27 rfl ⟨by decide, by decide⟩ (Rg_c rfl) dX7_storm_68 rfl ?_
    refine V_icmp_ge (tgt := 99) (q := 72) hC h8 (hs _ _ _) dX7_storm_69 (by decide) rfl (fun c17 => ?_) (fun c17 => ?_)
    · replace hf := (if_pos c17).symm.trans hf
      refine V_iconst (q := 100) hC dX7_storm_99 rfl ?_
      refine V_istore (i := 8) (lv' := [(0, rf G 7 0), (1, iv v1), (2, iv v2), (3, iv v3), (4, iv v4), (5, iv v5), (6, iv v6), (7, iv v7), (8, iv 0)]) (q := 102) hC [1, 2, 3, 4, 5, 6, 7, 8, 0] (by decide) rfl dX7_storm_100 rfl ?_
      refine V_lsub [0, 1, 2, 3, 4, 5, 6, 7, 8] rfl ?_
      exact (tlX7_storm_102 hG hC hr hlk FU).1 hs h1 h2 h3 h4 h5 h6 h7 (Rg_c rfl) hf
    · replace hf := (if_neg c17).symm.trans hf
      refine V_iload (k := 7) (q := 74) hC 7 rfl dX7_storm_72 rfl ?_
      refine V_iload (k := 5) (q := 76) hC 5 rfl dX7_storm_74 rfl ?_
      refine V_iload (k := 8) (q := 78) hC 8 rfl dX7_storm_76 rfl ?_
      refine V_csi (st := [iv v7]) (q := 81) hC (sX7_has l hG h5 h8 hs) (va_cwS 2 hC.2.2.2.2.1 gX7_storm_X7_has rfl rfl rfl (by decide +kernel) ⟨Nat.le_of_ble_eq_true rfl, Nat.le_of_ble_eq_true rfl⟩) rfl rfl (Nat.le_of_ble_eq_true rfl) dX7_storm_78 rfl ⟨Nat.zero_le _, Nat.zero_le _⟩ (fun hr18 _ => ?_)
      refine V_if_eq (tgt := 89) (q := 84) hC hr18 dX7_storm_81 (by decide) rfl (fun c19 => ?_) (fun c19 => ?_)
      · replace hf := (if_pos c19).symm.trans hf
        refine V_iconst (q := 90) hC dX7_storm_89 rfl ?_
        refine V_imul (q := 91) hC dX7_storm_90 rfl ?_
        refine V_istore (i := 7) (lv' := [(0, rf G 7 0), (1, iv v1), (2, iv v2), (3, iv v3), (4, iv v4), (5, iv v5), (6, iv v6), (7, iv (wr (v7 * 1))), (8, iv v8)]) (q := 93) hC [1, 2, 3, 4, 5, 6, 7, 0, 8] (by decide) rfl dX7_storm_91 rfl ?_
        refine V_iinc (i := 8) (lv' := [(0, rf G 7 0), (1, iv v1), (2, iv v2), (3, iv v3), (4, iv v4), (5, iv v5), (6, iv v6), (7, iv (wr (v7 * 1))), (8, iv (wr (v8 + 1)))]) (q := 96) hC 8 rfl [1, 2, 3, 4, 5, 6, 7, 8, 0] (by decide) rfl dX7_storm_93 rfl ?_
        refine V_goto (tgt := 61) hC dX7_storm_96 (by decide) ?_
        refine V_lsub [0, 1, 2, 3, 4, 5, 6, 7, 8] rfl ?_
        exact ih hs h1 h2 h3 h4 h5 h6 (Rg_wr _) (Rg_wr _) hf
      · replace hf := (if_neg c19).symm.trans hf
        refine V_bipush (q := 86) hC (by decide) dX7_storm_84 rfl ?_
        refine V_goto (tgt := 90) hC dX7_storm_86 (by decide) ?_
        refine V_imul (q := 91) hC dX7_storm_90 rfl ?_
        refine V_istore (i := 7) (lv' := [(0, rf G 7 0), (1, iv v1), (2, iv v2), (3, iv v3), (4, iv v4), (5, iv v5), (6, iv v6), (7, iv (wr (v7 * 10))), (8, iv v8)]) (q := 93) hC [1, 2, 3, 4, 5, 6, 7, 0, 8] (by decide) rfl dX7_storm_91 rfl ?_
        refine V_iinc (i := 8) (lv' := [(0, rf G 7 0), (1, iv v1), (2, iv v2), (3, iv v3), (4, iv v4), (5, iv v5), (6, iv v6), (7, iv (wr (v7 * 10))), (8, iv (wr (v8 + 1)))]) (q := 96) hC 8 rfl [1, 2, 3, 4, 5, 6, 7, 8, 0] (by decide) rfl dX7_storm_93 rfl ?_
        refine V_goto (tgt := 61) hC dX7_storm_96 (by decide) ?_
        refine V_lsub [0, 1, 2, 3, 4, 5, 6, 7, 8] rfl ?_
        exact ih hs h1 h2 h3 h4 h5 h6 (Rg_wr _) (Rg_wr _) hf
set_option maxHeartbeats 4000000 in
set_option maxRecDepth 100000 in
theorem sX7_storm (l : Launch) {G : GT} (hG : GI G) {v1 : Int} {v2 : Int} {v3 : Int} {v4 : Int} (h1 : Rg v1) (h2 : Rg v2) (h3 : Rg v3) (h4 : Rg v4) {σ : Hp} (hs : RgS σ) {r0 : Int × Hp} (hf : fX7_storm σ v1 v2 v3 v4 = some r0) : Cti l G yX7_storm wsX7_storm rmX7_storm [rf G 7 0, iv v1, iv v2, iv v3, iv v4] σ r0.1 r0.2 := by
  unfold fX7_storm at hf
  refine Cti_start (lv := [(0, rf G 7 0), (1, iv v1), (2, iv v2), (3, iv v3), (4, iv v4)]) (ret := (some .int)) (by decide +kernel) rfl hG (Nat.le_of_ble_eq_true rfl) rfl (fun p e s m args below meth c hC hr hlk => ?_)
  refine V_aload_n (k := 0) (q := 1) hC 0 rfl dX7_storm_0 rfl ?_
  refine V_iload_n (k := 1) (q := 2) hC 1 rfl dX7_storm_1 rfl ?_
  refine V_iload_n (k := 2) (q := 3) hC 2 rfl dX7_storm_2 rfl ?_
  obtain ⟨r1, σ2, hc3, hf⟩ := cl_some hf
  refine V_cvi (st := []) (q := 6) (x0 := r1) (σ0 := σ2) hC (sX7_areOfOne l hG h1 h2 hs hc3) (cwV 2 hC.2.2.2.2.1 gX7_storm_X7_areOfOne rfl rfl rfl (by decide +kernel) ⟨Nat.le_of_ble_eq_true rfl, Nat.le_of_ble_eq_true rfl⟩) ⟨_, rfl, rfl⟩ iD7 (fun _ => ⟨_, rfl⟩) rfl rfl (Nat.le_of_ble_eq_true rfl) dX7_storm_3 rfl ⟨Nat.zero_le _, Nat.zero_le _⟩ (fun hr4 hs5 => ?_)
  refine V_if_eq (tgt := 29) (q := 9) hC hr4 dX7_storm_6 (by decide) rfl (fun c6 => ?_) (fun c6 => ?_)
  · replace hf := (if_pos c6).symm.trans hf
    refine V_ldc (q := 31) (n := (-1000001)) hC (by decide) kX7_storm_c61 dX7_storm_29 rfl ?_
    exact V_iret hC hr hlk (re_1 hf) (re_2 hf) (Rg_c rfl) hs5 dX7_storm_31
  · replace hf := (if_neg c6).symm.trans hf
    refine V_iload_n (k := 3) (q := 10) hC 3 rfl dX7_storm_9 rfl ?_
    refine V_iconst (q := 11) hC dX7_storm_10 rfl ?_
    refine V_bipush (q := 13) hC (by decide) dX7_storm_11 rfl ?_
    refine V_csi (st := []) (q := 16) hC (sX7_in l hG h3 (Rg_c rfl) (Rg_c rfl) hs5) (va_cwS 3 hC.2.2.2.2.1 gX7_storm_X7_in rfl rfl rfl (by decide +kernel) ⟨Nat.le_of_ble_eq_true rfl, Nat.le_of_ble_eq_true rfl⟩) rfl rfl (Nat.le_of_ble_eq_true rfl) dX7_storm_13 rfl ⟨Nat.zero_le _, Nat.zero_le _⟩ (fun hr7 _ => ?_)
    refine V_if_eq (tgt := 29) (q := 19) hC hr7 dX7_storm_16 (by decide) rfl (fun c8 => ?_) (fun c8 => ?_)
    · replace hf := (if_pos c8).symm.trans hf
      refine V_ldc (q := 31) (n := (-1000001)) hC (by decide) kX7_storm_c61 dX7_storm_29 rfl ?_
      exact V_iret hC hr hlk (re_1 hf) (re_2 hf) (Rg_c rfl) hs5 dX7_storm_31
    · replace hf := (if_neg c8).symm.trans hf
      refine V_iload (k := 4) (q := 21) hC 4 rfl dX7_storm_19 rfl ?_
      refine V_iconst (q := 22) hC dX7_storm_21 rfl ?_
      refine V_iconst (q := 23) hC dX7_storm_22 rfl ?_
      refine V_csi (st := []) (q := 26) hC (sX7_in l hG h4 (Rg_c rfl) (Rg_c rfl) hs5) (va_cwS 3 hC.2.2.2.2.1 gX7_storm_X7_in rfl rfl rfl (by decide +kernel) ⟨Nat.le_of_ble_eq_true rfl, Nat.le_of_ble_eq_true rfl⟩) rfl rfl (Nat.le_of_ble_eq_true rfl) dX7_storm_23 rfl ⟨Nat.zero_le _, Nat.zero_le _⟩ (fun hr9 _ => ?_)
      refine V_if_ne (tgt := 32) (q := 29) hC hr9 dX7_storm_26 (by decide) rfl (fun c10 => ?_) (fun c10 => ?_)
      · replace hf := (if_neg c10).symm.trans hf
        refine V_aload_n (k := 0) (q := 33) hC 0 rfl dX7_storm_32 rfl ?_
        refine V_getf (T := TX7) (k := 13) (q := 36) hC uX7_storm_7 rfl iD7 rfl (by decide) kX7_storm_f25 rfl dX7_storm_33 rfl ?_
        refine V_aload_n (k := 0) (q := 37) hC 0 rfl dX7_storm_36 rfl ?_
        refine V_getf (T := TX7) (k := 13) (q := 40) hC uX7_storm_7 rfl iD7 rfl (by decide) kX7_storm_f25 rfl dX7_storm_37 rfl ?_
        refine V_bipush (q := 42) hC (by decide) dX7_storm_40 rfl ?_
        refine V_iconst (q := 43) hC dX7_storm_42 rfl ?_
        refine V_iload_n (k := 1) (q := 44) hC 1 rfl dX7_storm_43 rfl ?_
        refine V_imul (q := 45) hC dX7_storm_44 rfl ?_
        refine V_iadd (q := 46) hC dX7_storm_45 rfl ?_
        obtain ⟨g11, hf⟩ := gd_some hf
        refine V_iald (n := 48) (q := 47) hC iD27 rfl g11 (Rg_wr _) dX7_storm_46 rfl ?_
        obtain ⟨r12, σ13, hc14, hf⟩ := cl_some hf
        refine V_csi (st := []) (q := 50) (x0 := r12) (σ0 := σ13) hC (sX7_legible l hG iD27 (hs5 _ _ _) hs5 hc14) (va_cwS 2 hC.2.2.2.2.1 gX7_storm_X7_legible rfl rfl rfl (by decide +kernel) ⟨Nat.le_of_ble_eq_true rfl, Nat.le_of_ble_eq_true rfl⟩) rfl rfl (Nat.le_of_ble_eq_true rfl) dX7_storm_47 rfl ⟨Nat.zero_le _, Nat.zero_le _⟩ (fun hr15 hs16 => ?_)
        refine V_istore (i := 5) (lv' := [(0, rf G 7 0), (1, iv v1), (2, iv v2), (3, iv v3), (4, iv v4), (5, iv r12)]) (q := 52) hC [1, 2, 3, 4, 5, 0] (by decide) rfl dX7_storm_50 rfl ?_
        refine V_iconst (q := 53) hC dX7_storm_52 rfl ?_
        refine V_istore (i := 6) (lv' := [(0, rf G 7 0), (1, iv v1), (2, iv v2), (3, iv v3), (4, iv v4), (5, iv r12), (6, iv 0)]) (q := 55) hC [1, 2, 3, 4, 5, 6, 0] (by decide) rfl dX7_storm_53 rfl ?_
        refine V_iconst (q := 56) hC dX7_storm_55 rfl ?_
        refine V_istore (i := 7) (lv' := [(0, rf G 7 0), (1, iv v1), (2, iv v2), (3, iv v3), (4, iv v4), (5, iv r12), (6, iv 0), (7, iv 1)]) (q := 58) hC [1, 2, 3, 4, 5, 6, 7, 0] (by decide) rfl dX7_storm_56 rfl ?_
        refine V_iconst (q := 59) hC dX7_storm_58 rfl ?_
        refine V_istore (i := 8) (lv' := [(0, rf G 7 0), (1, iv v1), (2, iv v2), (3, iv v3), (4, iv v4), (5, iv r12), (6, iv 0), (7, iv 1), (8, iv 0)]) (q := 61) hC [1, 2, 3, 4, 5, 6, 7, 8, 0] (by decide) rfl dX7_storm_59 rfl ?_
        refine V_lsub [0, 1, 2, 3, 4, 5, 6, 7, 8] rfl ?_
        exact (tlX7_storm_61 hG hC hr hlk FU) hs16 h1 h2 h3 h4 hr15 (Rg_c rfl) (Rg_c rfl) (Rg_c rfl) hf
      · replace hf := (if_pos c10).symm.trans hf
        refine V_ldc (q := 31) (n := (-1000001)) hC (by decide) kX7_storm_c61 dX7_storm_29 rfl ?_
        exact V_iret hC hr hlk (re_1 hf) (re_2 hf) (Rg_c rfl) hs5 dX7_storm_31
/-! X7_image -/
theorem kX7_image_f25 : Cond.fieldLink RX7 25 "BarkNamesModel" "now" "[I" ∈ wsX7_image := by decide +kernel
theorem uX7_image_7 : ∀ w ∈ u_ws RX7 TX7 22, w ∈ wsX7_image := by decide +kernel
theorem kX7_image_f34 : Cond.fieldLink RX7 34 "BarkNamesModel" "images" "[I" ∈ wsX7_image := by decide +kernel
theorem kX7_image_f37 : Cond.fieldLink RX7 37 "BarkNamesModel" "kept" "[Z" ∈ wsX7_image := by decide +kernel
theorem kX7_image_c178 : Cond.constant RX7 178 (-1000002) ∈ wsX7_image := by decide +kernel
theorem kX7_image_c61 : Cond.constant RX7 61 (-1000001) ∈ wsX7_image := by decide +kernel
abbrev rmX7_image : Room := { frames := 1, cells := 0, slots := 0, locals := 24 }
set_option maxHeartbeats 4000000 in
set_option maxRecDepth 100000 in
theorem sX7_image (l : Launch) {G : GT} (hG : GI G) {v1 : Int} (h1 : Rg v1) {σ : Hp} (hs : RgS σ) {r0 : Int × Hp} (hf : fX7_image σ v1 = some r0) : Cti l G yX7_image wsX7_image rmX7_image [rf G 7 0, iv v1] σ r0.1 r0.2 := by
  unfold fX7_image at hf
  refine Cti_start (lv := [(0, rf G 7 0), (1, iv v1)]) (ret := (some .int)) (by decide +kernel) rfl hG (Nat.le_of_ble_eq_true rfl) rfl (fun p e s m args below meth c hC hr hlk => ?_)
  refine V_iload_n (k := 1) (q := 1) hC 1 rfl dX7_image_0 rfl ?_
  refine V_iconst (q := 2) hC dX7_image_1 rfl ?_
  refine V_iconst (q := 3) hC dX7_image_2 rfl ?_
  refine V_csi (st := []) (q := 6) hC (sX7_in l hG h1 (Rg_c rfl) (Rg_c rfl) hs) (va_cwS 3 hC.2.2.2.2.1 gX7_image_X7_in rfl rfl rfl (by decide +kernel) ⟨Nat.le_of_ble_eq_true rfl, Nat.le_of_ble_eq_true rfl⟩) rfl rfl (Nat.le_of_ble_eq_true rfl) dX7_image_3 rfl ⟨Nat.zero_le _, Nat.zero_le _⟩ (fun hr1 _ => ?_)
  refine V_if_ne (tgt := 12) (q := 9) hC hr1 dX7_image_6 (by decide) rfl (fun c2 => ?_) (fun c2 => ?_)
  · replace hf := (if_neg c2).symm.trans hf
    refine V_aload_n (k := 0) (q := 13) hC 0 rfl dX7_image_12 rfl ?_
    refine V_cvi (st := []) (q := 16) hC (sX7_isWood l hG  hs) (cwV 0 hC.2.2.2.2.1 gX7_image_X7_isWood rfl rfl rfl (by decide +kernel) ⟨Nat.le_of_ble_eq_true rfl, Nat.le_of_ble_eq_true rfl⟩) ⟨_, rfl, rfl⟩ iD7 (fun _ => ⟨_, rfl⟩) rfl rfl (Nat.le_of_ble_eq_true rfl) dX7_image_13 rfl ⟨Nat.zero_le _, Nat.zero_le _⟩ (fun hr3 _ => ?_)
    refine V_if_ne (tgt := 22) (q := 19) hC hr3 dX7_image_16 (by decide) rfl (fun c4 => ?_) (fun c4 => ?_)
    · replace hf := (if_neg c4).symm.trans hf
      refine V_aload_n (k := 0) (q := 23) hC 0 rfl dX7_image_22 rfl ?_
      refine V_getf (T := TX7) (k := 13) (q := 26) hC uX7_image_7 rfl iD7 rfl (by decide) kX7_image_f25 rfl dX7_image_23 rfl ?_
      refine V_iconst (q := 27) hC dX7_image_26 rfl ?_
      refine V_aload_n (k := 0) (q := 28) hC 0 rfl dX7_image_27 rfl ?_
      refine V_getf (T := TX7) (k := 17) (q := 31) hC uX7_image_7 rfl iD7 rfl (by decide) kX7_image_f34 rfl dX7_image_28 rfl ?_
      refine V_bipush (q := 33) hC (by decide) dX7_image_31 rfl ?_
      refine V_iload_n (k := 1) (q := 34) hC 1 rfl dX7_image_33 rfl ?_
      refine V_imul (q := 35) hC dX7_image_34 rfl ?_
      obtain ⟨r5, σ6, hc7, hf⟩ := cl_some hf
      refine V_csv (st := []) (q := 38) (σ0 := σ6) hC (sX7_copies l hG iD27 (Rg_c rfl) iD30 (Rg_wr _) hs hc7) (va_cwS 4 hC.2.2.2.2.1 gX7_image_X7_copies rfl rfl rfl (by decide +kernel) ⟨Nat.le_of_ble_eq_true rfl, Nat.le_of_ble_eq_true rfl⟩) rfl rfl (Nat.le_of_ble_eq_true rfl) dX7_image_35 rfl ⟨Nat.zero_le _, Nat.zero_le _⟩ (fun hs9 => ?_)
      refine V_aload_n (k := 0) (q := 39) hC 0 rfl dX7_image_38 rfl ?_
      refine V_getf (T := TX7) (k := 18) (q := 42) hC uX7_image_7 rfl iD7 rfl (by decide) kX7_image_f37 rfl dX7_image_39 rfl ?_
      refine V_iload_n (k := 1) (q := 43) hC 1 rfl dX7_image_42 rfl ?_
      refine V_iconst (q := 44) hC dX7_image_43 rfl ?_
      obtain ⟨g10, hf⟩ := gd_some hf
      obtain ⟨σ11, e12, hf⟩ := sq_ex hf
      have hs13 : RgS σ11 := by rw [e12]; exact RgS_hup hs9 (Rg_c rfl)
      refine V_zast31 (q := 45) hC g10 h1 (Or.inr rfl) e12 dX7_image_44 rfl ?_
      refine V_iconst (q := 46) hC dX7_image_45 rfl ?_
      exact V_iret hC hr hlk (re_1 hf) (re_2 hf) (Rg_c rfl) hs13 dX7_image_46
    · replace hf := (if_pos c4).symm.trans hf
      refine V_ldc (q := 21) (n := (-1000002)) hC (by decide) kX7_image_c178 dX7_image_19 rfl ?_
      exact V_iret hC hr hlk (re_1 hf) (re_2 hf) (Rg_c rfl) hs dX7_image_21
  · replace hf := (if_pos c2).symm.trans hf
    refine V_ldc (q := 11) (n := (-1000001)) hC (by decide) kX7_image_c61 dX7_image_9 rfl ?_
    exact V_iret hC hr hlk (re_1 hf) (re_2 hf) (Rg_c rfl) hs dX7_image_11
/-! X7_restore -/
theorem kX7_restore_f37 : Cond.fieldLink RX7 37 "BarkNamesModel" "kept" "[Z" ∈ wsX7_restore := by decide +kernel
theorem uX7_restore_7 : ∀ w ∈ u_ws RX7 TX7 22, w ∈ wsX7_restore := by decide +kernel
theorem kX7_restore_f34 : Cond.fieldLink RX7 34 "BarkNamesModel" "images" "[I" ∈ wsX7_restore := by decide +kernel
theorem kX7_restore_f25 : Cond.fieldLink RX7 25 "BarkNamesModel" "now" "[I" ∈ wsX7_restore := by decide +kernel
theorem kX7_restore_f139 : Cond.fieldLink RX7 139 "BarkNamesModel" "acts" "I" ∈ wsX7_restore := by decide +kernel
theorem kX7_restore_c178 : Cond.constant RX7 178 (-1000002) ∈ wsX7_restore := by decide +kernel
theorem kX7_restore_c61 : Cond.constant RX7 61 (-1000001) ∈ wsX7_restore := by decide +kernel
abbrev rmX7_restore : Room := { frames := 1, cells := 0, slots := 0, locals := 24 }
set_option maxHeartbeats 4000000 in
set_option maxRecDepth 100000 in
theorem sX7_restore (l : Launch) {G : GT} (hG : GI G) {v1 : Int} (h1 : Rg v1) {σ : Hp} (hs : RgS σ) {r0 : Int × Hp} (hf : fX7_restore σ v1 = some r0) : Cti l G yX7_restore wsX7_restore rmX7_restore [rf G 7 0, iv v1] σ r0.1 r0.2 := by
  unfold fX7_restore at hf
  refine Cti_start (lv := [(0, rf G 7 0), (1, iv v1)]) (ret := (some .int)) (by decide +kernel) rfl hG (Nat.le_of_ble_eq_true rfl) rfl (fun p e s m args below meth c hC hr hlk => ?_)
  refine V_iload_n (k := 1) (q := 1) hC 1 rfl dX7_restore_0 rfl ?_
  refine V_iconst (q := 2) hC dX7_restore_1 rfl ?_
  refine V_iconst (q := 3) hC dX7_restore_2 rfl ?_
  refine V_csi (st := []) (q := 6) hC (sX7_in l hG h1 (Rg_c rfl) (Rg_c rfl) hs) (va_cwS 3 hC.2.2.2.2.1 gX7_restore_X7_in rfl rfl rfl (by decide +kernel) ⟨Nat.le_of_ble_eq_true rfl, Nat.le_of_ble_eq_true rfl⟩) rfl rfl (Nat.le_of_ble_eq_true rfl) dX7_restore_3 rfl ⟨Nat.zero_le _, Nat.zero_le _⟩ (fun hr1 _ => ?_)
  refine V_if_ne (tgt := 12) (q := 9) hC hr1 dX7_restore_6 (by decide) rfl (fun c2 => ?_) (fun c2 => ?_)
  · replace hf := (if_neg c2).symm.trans hf
    refine V_aload_n (k := 0) (q := 13) hC 0 rfl dX7_restore_12 rfl ?_
    refine V_getf (T := TX7) (k := 18) (q := 16) hC uX7_restore_7 rfl iD7 rfl (by decide) kX7_restore_f37 rfl dX7_restore_13 rfl ?_
    refine V_iload_n (k := 1) (q := 17) hC 1 rfl dX7_restore_16 rfl ?_
    obtain ⟨g3, hf⟩ := gd_some hf
    refine V_zald31 (q := 18) hC g3 h1 dX7_restore_17 rfl ?_
    refine V_if_ne (tgt := 24) (q := 21) hC (hs _ _ _) dX7_restore_18 (by decide) rfl (fun c4 => ?_) (fun c4 => ?_)
    · replace hf := (if_neg c4).symm.trans hf
      refine V_aload_n (k := 0) (q := 25) hC 0 rfl dX7_restore_24 rfl ?_
      refine V_getf (T := TX7) (k := 17) (q := 28) hC uX7_restore_7 rfl iD7 rfl (by decide) kX7_restore_f34 rfl dX7_restore_25 rfl ?_
      refine V_bipush (q := 30) hC (by decide) dX7_restore_28 rfl ?_
      refine V_iload_n (k := 1) (q := 31) hC 1 rfl dX7_restore_30 rfl ?_
      refine V_imul (q := 32) hC dX7_restore_31 rfl ?_
      refine V_aload_n (k := 0) (q := 33) hC 0 rfl dX7_restore_32 rfl ?_
      refine V_getf (T := TX7) (k := 13) (q := 36) hC uX7_restore_7 rfl iD7 rfl (by decide) kX7_restore_f25 rfl dX7_restore_33 rfl ?_
      refine V_iconst (q := 37) hC dX7_restore_36 rfl ?_
      obtain ⟨r5, σ6, hc7, hf⟩ := cl_some hf
      refine V_csv (st := []) (q := 40) (σ0 := σ6) hC (sX7_copies l hG iD30 (Rg_wr _) iD27 (Rg_c rfl) hs hc7) (va_cwS 4 hC.2.2.2.2.1 gX7_restore_X7_copies rfl rfl rfl (by decide +kernel) ⟨Nat.le_of_ble_eq_true rfl, Nat.le_of_ble_eq_true rfl⟩) rfl rfl (Nat.le_of_ble_eq_true rfl) dX7_restore_37 rfl ⟨Nat.zero_le _, Nat.zero_le _⟩ (fun hs9 => ?_)
      refine V_aload_n (k := 0) (q := 41) hC 0 rfl dX7_restore_40 rfl ?_
      refine V_iconst (q := 42) hC dX7_restore_41 rfl ?_
      obtain ⟨σ10, e11, hf⟩ := sq_ex hf
      have hs12 : RgS σ10 := by rw [e11]; exact RgS_hup hs9 (Rg_c rfl)
      refine V_putf (T := TX7) (k := 16) (ty := .int) (q := 45) hC uX7_restore_7 rfl tyX7 tyX7_ok nmX7 iD7 rfl (pf_7_16 _ _ _ _ rfl) (by decide) kX7_restore_f139 rfl (by decide +kernel) rfl rfl (Nat.le_of_ble_eq_true rfl) e11 dX7_restore_42 rfl ?_
      refine V_iconst (q := 46) hC dX7_restore_45 rfl ?_
      exact V_iret hC hr hlk (re_1 hf) (re_2 hf) (Rg_c rfl) hs12 dX7_restore_46
    · replace hf := (if_pos c4).symm.trans hf
      refine V_ldc (q := 23) (n := (-1000002)) hC (by decide) kX7_restore_c178 dX7_restore_21 rfl ?_
      exact V_iret hC hr hlk (re_1 hf) (re_2 hf) (Rg_c rfl) hs dX7_restore_23
  · replace hf := (if_pos c2).symm.trans hf
    refine V_ldc (q := 11) (n := (-1000001)) hC (by decide) kX7_restore_c61 dX7_restore_9 rfl ?_
    exact V_iret hC hr hlk (re_1 hf) (re_2 hf) (Rg_c rfl) hs dX7_restore_11
/-! X7_kindIn -/
theorem kX7_kindIn_f25 : Cond.fieldLink RX7 25 "BarkNamesModel" "now" "[I" ∈ wsX7_kindIn := by decide +kernel
theorem uX7_kindIn_7 : ∀ w ∈ u_ws RX7 TX7 22, w ∈ wsX7_kindIn := by decide +kernel
abbrev rmX7_kindIn : Room := { frames := 0, cells := 0, slots := 0, locals := 0 }
set_option maxHeartbeats 4000000 in
set_option maxRecDepth 100000 in
theorem sX7_kindIn (l : Launch) {G : GT} (hG : GI G) {v1 : Int} (h1 : Rg v1) {σ : Hp} (hs : RgS σ) {r0 : Int × Hp} (hf : fX7_kindIn σ v1 = some r0) : Cti l G yX7_kindIn wsX7_kindIn rmX7_kindIn [rf G 7 0, iv v1] σ r0.1 r0.2 := by
  unfold fX7_kindIn at hf
  refine Cti_start (lv := [(0, rf G 7 0), (1, iv v1)]) (ret := (some .int)) (by decide +kernel) rfl hG (Nat.le_of_ble_eq_true rfl) rfl (fun p e s m args below meth c hC hr hlk => ?_)
  refine V_aload_n (k := 0) (q := 1) hC 0 rfl dX7_kindIn_0 rfl ?_
  refine V_getf (T := TX7) (k := 13) (q := 4) hC uX7_kindIn_7 rfl iD7 rfl (by decide) kX7_kindIn_f25 rfl dX7_kindIn_1 rfl ?_
  refine V_iconst (q := 5) hC dX7_kindIn_4 rfl ?_
  refine V_iconst (q := 6) hC dX7_kindIn_5 rfl ?_
  refine V_iload_n (k := 1) (q := 7) hC 1 rfl dX7_kindIn_6 rfl ?_
  refine V_imul (q := 8) hC dX7_kindIn_7 rfl ?_
  refine V_iadd (q := 9) hC dX7_kindIn_8 rfl ?_
  obtain ⟨g1, hf⟩ := gd_some hf
  refine V_iald (n := 48) (q := 10) hC iD27 rfl g1 (Rg_wr _) dX7_kindIn_9 rfl ?_
  exact V_iret hC hr hlk (re_1 hf) (re_2 hf) (hs _ _ _) hs dX7_kindIn_10
/-! X7_kind -/
theorem kX7_kind_c61 : Cond.constant RX7 61 (-1000001) ∈ wsX7_kind := by decide +kernel
abbrev rmX7_kind : Room := { frames := 2, cells := 0, slots := 0, locals := 43 }
set_option maxHeartbeats 4000000 in
set_option maxRecDepth 100000 in
theorem sX7_kind (l : Launch) {G : GT} (hG : GI G) {v1 : Int} (h1 : Rg v1) {σ : Hp} (hs : RgS σ) {r0 : Int × Hp} (hf : fX7_kind σ v1 = some r0) : Cti l G yX7_kind wsX7_kind rmX7_kind [rf G 7 0, iv v1] σ r0.1 r0.2 := by
  unfold fX7_kind at hf
  refine Cti_start (lv := [(0, rf G 7 0), (1, iv v1)]) (ret := (some .int)) (by decide +kernel) rfl hG (Nat.le_of_ble_eq_true rfl) rfl (fun p e s m args below meth c hC hr hlk => ?_)
  refine V_aload_n (k := 0) (q := 1) hC 0 rfl dX7_kind_0 rfl ?_
  refine V_iload_n (k := 1) (q := 2) hC 1 rfl dX7_kind_1 rfl ?_
  refine V_cvi (st := []) (q := 5) hC (sX7_isTree l hG h1 hs) (cwV 1 hC.2.2.2.2.1 gX7_kind_X7_isTree rfl rfl rfl (by decide +kernel) ⟨Nat.le_of_ble_eq_true rfl, Nat.le_of_ble_eq_true rfl⟩) ⟨_, rfl, rfl⟩ iD7 (fun _ => ⟨_, rfl⟩) rfl rfl (Nat.le_of_ble_eq_true rfl) dX7_kind_2 rfl ⟨Nat.zero_le _, Nat.zero_le _⟩ (fun hr1 _ => ?_)
  refine V_if_eq (tgt := 16) (q := 8) hC hr1 dX7_kind_5 (by decide) rfl (fun c2 => ?_) (fun c2 => ?_)
  · replace hf := (if_pos c2).symm.trans hf
    refine V_ldc (q := 18) (n := (-1000001)) hC (by decide) kX7_kind_c61 dX7_kind_16 rfl ?_
    exact V_iret hC hr hlk (re_1 hf) (re_2 hf) (Rg_c rfl) hs dX7_kind_18
  · replace hf := (if_neg c2).symm.trans hf
    refine V_aload_n (k := 0) (q := 9) hC 0 rfl dX7_kind_8 rfl ?_
    refine V_iload_n (k := 1) (q := 10) hC 1 rfl dX7_kind_9 rfl ?_
    obtain ⟨r3, σ4, hc5, hf⟩ := cl_some hf
    refine V_cvi (st := []) (q := 13) (x0 := r3) (σ0 := σ4) hC (sX7_kindIn l hG h1 hs hc5) (cwV 1 hC.2.2.2.2.1 gX7_kind_X7_kindIn rfl rfl rfl (by decide +kernel) ⟨Nat.le_of_ble_eq_true rfl, Nat.le_of_ble_eq_true rfl⟩) ⟨_, rfl, rfl⟩ iD7 (fun _ => ⟨_, rfl⟩) rfl rfl (Nat.le_of_ble_eq_true rfl) dX7_kind_10 rfl ⟨Nat.zero_le _, Nat.zero_le _⟩ (fun hr6 hs7 => ?_)
    refine V_goto (tgt := 18) hC dX7_kind_13 (by decide) ?_
    exact V_iret hC hr hlk (re_1 hf) (re_2 hf) hr6 hs7 dX7_kind_18
/-! X7_as -/
theorem kX7_as_c61 : Cond.constant RX7 61 (-1000001) ∈ wsX7_as := by decide +kernel
abbrev rmX7_as : Room := { frames := 2, cells := 0, slots := 0, locals := 43 }
set_option maxHeartbeats 4000000 in
set_option maxRecDepth 100000 in
theorem tjX7_as_60 {p : Program} {l : Launch} {e : Env} {s : State} {m : MethodId} {args : Array Value} {below : List Frame} {meth : Method} {c : Code} {G : GT} (hG : GI G) (hC : CX p s m args c cX7_as 5 RX7 wsX7_as G (AA G)) (hr : meth.sig.returnType = (some .int)) (hlk : meth.locks = false) {r0 : Int × Hp} {σ : Hp} (hs : RgS σ) {v1 : Int} {w0 : Int} (h1 : Rg v1) (hw0 : Rg w0) (hf : jX7_as_60 σ v1 w0 = some r0) : VV p l e (headSpec wsX7_as rmX7_as).room s m args below meth c (MQ below (QI G r0.1 r0.2) args s 0 0 (AA G)) G (AA G) 0 0 5 σ 60 [(0, rf G 7 0), (1, iv v1)] [iv w0] := by
  unfold jX7_as_60 at hf
  refine V_istore (i := 4) (lv' := [(0, rf G 7 0), (1, iv v1), (4, iv w0)]) (q := 62) hC [1, 2, 0] (by decide) rfl dX7_as_60 rfl ?_
  refine V_iload (k := 4) (q := 64) hC 2 rfl dX7_as_62 rfl ?_
  refine V_if_eq (tgt := 75) (q := 67) hC hw0 dX7_as_64 (by decide) rfl (fun c16 => ?_) (fun c16 => ?_)
  · replace hf := (if_pos c16).symm.trans hf
    refine V_aload_n (k := 0) (q := 76) hC 0 rfl dX7_as_75 rfl ?_
    refine V_iconst (q := 77) hC dX7_as_76 rfl ?_
    obtain ⟨r17, σ18, hc19, hf⟩ := cl_some hf
    refine V_cvi (st := []) (q := 80) (x0 := r17) (σ0 := σ18) hC (sX7_found l hG (Rg_c rfl) hs hc19) (cwV 1 hC.2.2.2.2.1 gX7_as_X7_found rfl rfl rfl (by decide +kernel) ⟨Nat.le_of_ble_eq_true rfl, Nat.le_of_ble_eq_true rfl⟩) ⟨_, rfl, rfl⟩ iD7 (fun _ => ⟨_, rfl⟩) rfl rfl (Nat.le_of_ble_eq_true rfl) dX7_as_77 rfl ⟨Nat.zero_le _, Nat.zero_le _⟩ (fun hr20 hs21 => ?_)
    exact V_iret hC hr hlk (re_1 hf) (re_2 hf) hr20 hs21 dX7_as_80
  · replace hf := (if_neg c16).symm.trans hf
    refine V_aload_n (k := 0) (q := 68) hC 0 rfl dX7_as_67 rfl ?_
    refine V_iload_n (k := 1) (q := 69) hC 1 rfl dX7_as_68 rfl ?_
    obtain ⟨r22, σ23, hc24, hf⟩ := cl_some hf
    refine V_cvi (st := []) (q := 72) (x0 := r22) (σ0 := σ23) hC (sX7_well l hG h1 hs hc24) (cwV 1 hC.2.2.2.2.1 gX7_as_X7_well rfl rfl rfl (by decide +kernel) ⟨Nat.le_of_ble_eq_true rfl, Nat.le_of_ble_eq_true rfl⟩) ⟨_, rfl, rfl⟩ iD7 (fun _ => ⟨_, rfl⟩) rfl rfl (Nat.le_of_ble_eq_true rfl) dX7_as_69 rfl ⟨Nat.zero_le _, Nat.zero_le _⟩ (fun hr25 hs26 => ?_)
    refine V_goto (tgt := 80) hC dX7_as_72 (by decide) ?_
    exact V_iret hC hr hlk (re_1 hf) (re_2 hf) hr25 hs26 dX7_as_80
set_option maxHeartbeats 4000000 in
set_option maxRecDepth 100000 in
theorem tjX7_as_45 {p : Program} {l : Launch} {e : Env} {s : State} {m : MethodId} {args : Array Value} {below : List Frame} {meth : Method} {c : Code} {G : GT} (hG : GI G) (hC : CX p s m args c cX7_as 5 RX7 wsX7_as G (AA G)) (hr : meth.sig.returnType = (some .int)) (hlk : meth.locks = false) {r0 : Int × Hp} {σ : Hp} (hs : RgS σ) {v1 : Int} {v2 : Int} {v3 : Int} (h1 : Rg v1) (h2 : Rg v2) (h3 : Rg v3) (hf : jX7_as_45 σ v1 v2 v3 = some r0) : VV p l e (headSpec wsX7_as rmX7_as).room s m args below meth c (MQ below (QI G r0.1 r0.2) args s 0 0 (AA G)) G (AA G) 0 0 5 σ 45 [(0, rf G 7 0), (1, iv v1), (2, iv v2), (3, iv v3)] [] := by
  unfold jX7_as_45 at hf
  refine V_iload_n (k := 2) (q := 46) hC 2 rfl dX7_as_45 rfl ?_
  refine V_iconst (q := 47) hC dX7_as_46 rfl ?_
  refine V_icmp_ne (tgt := 59) (q := 50) hC h2 (Rg_c rfl) dX7_as_47 (by decide) rfl (fun c14 => ?_) (fun c14 => ?_)
  · replace hf := (if_neg c14).symm.trans hf
    refine V_iconst (q := 60) hC dX7_as_59 rfl ?_
    refine V_lsub [0, 1] rfl ?_
    exact tjX7_as_60 hG hC hr hlk hs h1 (Rg_c rfl) hf
  · replace hf := (if_pos c14).symm.trans hf
    refine V_iload_n (k := 3) (q := 51) hC 3 rfl dX7_as_50 rfl ?_
    refine V_iconst (q := 52) hC dX7_as_51 rfl ?_
    refine V_icmp_ne (tgt := 59) (q := 55) hC h3 (Rg_c rfl) dX7_as_52 (by decide) rfl (fun c15 => ?_) (fun c15 => ?_)
    · replace hf := (if_neg c15).symm.trans hf
      refine V_iconst (q := 60) hC dX7_as_59 rfl ?_
      refine V_lsub [0, 1] rfl ?_
      exact tjX7_as_60 hG hC hr hlk hs h1 (Rg_c rfl) hf
    · replace hf := (if_pos c15).symm.trans hf
      refine V_iconst (q := 56) hC dX7_as_55 rfl ?_
      refine V_goto (tgt := 60) hC dX7_as_56 (by decide) ?_
      refine V_lsub [0, 1] rfl ?_
      exact tjX7_as_60 hG hC hr hlk hs h1 (Rg_c rfl) hf
set_option maxHeartbeats 4000000 in
set_option maxRecDepth 100000 in
theorem sX7_as (l : Launch) {G : GT} (hG : GI G) {v1 : Int} {v2 : Int} (h1 : Rg v1) (h2 : Rg v2) {σ : Hp} (hs : RgS σ) {r0 : Int × Hp} (hf : fX7_as σ v1 v2 = some r0) : Cti l G yX7_as wsX7_as rmX7_as [rf G 7 0, iv v1, iv v2] σ r0.1 r0.2 := by
  unfold fX7_as at hf
  refine Cti_start (lv := [(0, rf G 7 0), (1, iv v1), (2, iv v2)]) (ret := (some .int)) (by decide +kernel) rfl hG (Nat.le_of_ble_eq_true rfl) rfl (fun p e s m args below meth c hC hr hlk => ?_)
  refine V_aload_n (k := 0) (q := 1) hC 0 rfl dX7_as_0 rfl ?_
  refine V_iload_n (k := 1) (q := 2) hC 1 rfl dX7_as_1 rfl ?_
  refine V_cvi (st := []) (q := 5) hC (sX7_isTree l hG h1 hs) (cwV 1 hC.2.2.2.2.1 gX7_as_X7_isTree rfl rfl rfl (by decide +kernel) ⟨Nat.le_of_ble_eq_true rfl, Nat.le_of_ble_eq_true rfl⟩) ⟨_, rfl, rfl⟩ iD7 (fun _ => ⟨_, rfl⟩) rfl rfl (Nat.le_of_ble_eq_true rfl) dX7_as_2 rfl ⟨Nat.zero_le _, Nat.zero_le _⟩ (fun hr1 _ => ?_)
  refine V_if_eq (tgt := 17) (q := 8) hC hr1 dX7_as_5 (by decide) rfl (fun c2 => ?_) (fun c2 => ?_)
  · replace hf := (if_pos c2).symm.trans hf
    refine V_ldc (q := 19) (n := (-1000001)) hC (by decide) kX7_as_c61 dX7_as_17 rfl ?_
    exact V_iret hC hr hlk (re_1 hf) (re_2 hf) (Rg_c rfl) hs dX7_as_19
  · replace hf := (if_neg c2).symm.trans hf
    refine V_iload_n (k := 2) (q := 9) hC 2 rfl dX7_as_8 rfl ?_
    refine V_iconst (q := 10) hC dX7_as_9 rfl ?_
    refine V_iconst (q := 11) hC dX7_as_10 rfl ?_
    refine V_csi (st := []) (q := 14) hC (sX7_in l hG h2 (Rg_c rfl) (Rg_c rfl) hs) (va_cwS 3 hC.2.2.2.2.1 gX7_as_X7_in rfl rfl rfl (by decide +kernel) ⟨Nat.le_of_ble_eq_true rfl, Nat.le_of_ble_eq_true rfl⟩) rfl rfl (Nat.le_of_ble_eq_true rfl) dX7_as_11 rfl ⟨Nat.zero_le _, Nat.zero_le _⟩ (fun hr3 _ => ?_)
    refine V_if_ne (tgt := 20) (q := 17) hC hr3 dX7_as_14 (by decide) rfl (fun c4 => ?_) (fun c4 => ?_)
    · replace hf := (if_neg c4).symm.trans hf
      refine V_aload_n (k := 0) (q := 21) hC 0 rfl dX7_as_20 rfl ?_
      refine V_iload_n (k := 1) (q := 22) hC 1 rfl dX7_as_21 rfl ?_
      obtain ⟨r5, σ6, hc7, hf⟩ := cl_some hf
      refine V_cvi (st := []) (q := 25) (x0 := r5) (σ0 := σ6) hC (sX7_kindIn l hG h1 hs hc7) (cwV 1 hC.2.2.2.2.1 gX7_as_X7_kindIn rfl rfl rfl (by decide +kernel) ⟨Nat.le_of_ble_eq_true rfl, Nat.le_of_ble_eq_true rfl⟩) ⟨_, rfl, rfl⟩ iD7 (fun _ => ⟨_, rfl⟩) rfl rfl (Nat.le_of_ble_eq_true rfl) dX7_as_22 rfl ⟨Nat.zero_le _, Nat.zero_le _⟩ (fun hr8 hs9 => ?_)
      refine V_istore_n (k := 3) (i := 3) (lv' := [(0, rf G 7 0), (1, iv v1), (2, iv v2), (3, iv r5)]) (q := 26) hC [1, 2, 3, 0] rfl (by decide) rfl dX7_as_25 rfl ?_
      refine V_iload_n (k := 2) (q := 27) hC 2 rfl dX7_as_26 rfl ?_
      refine V_if_eq (tgt := 55) (q := 30) hC h2 dX7_as_27 (by decide) rfl (fun c10 => ?_) (fun c10 => ?_)
      · replace hf := (if_pos c10).symm.trans hf
        refine V_iconst (q := 56) hC dX7_as_55 rfl ?_
        refine V_goto (tgt := 60) hC dX7_as_56 (by decide) ?_
        refine V_lsub [0, 1] rfl ?_
        exact tjX7_as_60 hG hC hr hlk hs9 h1 (Rg_c rfl) hf
      · replace hf := (if_neg c10).symm.trans hf
        refine V_iload_n (k := 2) (q := 31) hC 2 rfl dX7_as_30 rfl ?_
        refine V_iload_n (k := 3) (q := 32) hC 3 rfl dX7_as_31 rfl ?_
        refine V_icmp_eq (tgt := 55) (q := 35) hC h2 hr8 dX7_as_32 (by decide) rfl (fun c11 => ?_) (fun c11 => ?_)
        · replace hf := (if_pos c11).symm.trans hf
          refine V_iconst (q := 56) hC dX7_as_55 rfl ?_
          refine V_goto (tgt := 60) hC dX7_as_56 (by decide) ?_
          refine V_lsub [0, 1] rfl ?_
          exact tjX7_as_60 hG hC hr hlk hs9 h1 (Rg_c rfl) hf
        · replace hf := (if_neg c11).symm.trans hf
          refine V_iload_n (k := 2) (q := 36) hC 2 rfl dX7_as_35 rfl ?_
          refine V_iconst (q := 37) hC dX7_as_36 rfl ?_
          refine V_icmp_ne (tgt := 45) (q := 40) hC h2 (Rg_c rfl) dX7_as_37 (by decide) rfl (fun c12 => ?_) (fun c12 => ?_)
          · replace hf := (if_neg c12).symm.trans hf
            refine V_lsub [0, 1, 2, 3] rfl ?_
            exact tjX7_as_45 hG hC hr hlk hs9 h1 h2 hr8 hf
          · replace hf := (if_pos c12).symm.trans hf
            refine V_iload_n (k := 3) (q := 41) hC 3 rfl dX7_as_40 rfl ?_
            refine V_iconst (q := 42) hC dX7_as_41 rfl ?_
            refine V_icmp_lt (tgt := 55) (q := 45) hC hr8 (Rg_c rfl) dX7_as_42 (by decide) rfl (fun c13 => ?_) (fun c13 => ?_)
            · replace hf := (if_pos c13).symm.trans hf
              refine V_iconst (q := 56) hC dX7_as_55 rfl ?_
              refine V_goto (tgt := 60) hC dX7_as_56 (by decide) ?_
              refine V_lsub [0, 1] rfl ?_
              exact tjX7_as_60 hG hC hr hlk hs9 h1 (Rg_c rfl) hf
            · replace hf := (if_neg c13).symm.trans hf
              refine V_lsub [0, 1, 2, 3] rfl ?_
              exact tjX7_as_45 hG hC hr hlk hs9 h1 h2 hr8 hf
    · replace hf := (if_pos c4).symm.trans hf
      refine V_ldc (q := 19) (n := (-1000001)) hC (by decide) kX7_as_c61 dX7_as_17 rfl ?_
      exact V_iret hC hr hlk (re_1 hf) (re_2 hf) (Rg_c rfl) hs dX7_as_19
/-! X7_begins -/
theorem kX7_begins_f215 : Cond.fieldLink RX7 215 "BarkNamesModel" "traced" "I" ∈ wsX7_begins := by decide +kernel
theorem uX7_begins_7 : ∀ w ∈ u_ws RX7 TX7 22, w ∈ wsX7_begins := by decide +kernel
theorem kX7_begins_f44 : Cond.fieldLink RX7 44 "BarkNamesModel" "trace" "[I" ∈ wsX7_begins := by decide +kernel
abbrev rmX7_begins : Room := { frames := 0, cells := 0, slots := 0, locals := 0 }
set_option maxHeartbeats 4000000 in
set_option maxRecDepth 100000 in
theorem sX7_begins (l : Launch) {G : GT} (hG : GI G) {v1 : Int} (h1 : Rg v1) {σ : Hp} (hs : RgS σ) {r0 : Int × Hp} (hf : fX7_begins σ v1 = some r0) : Ctv l G yX7_begins wsX7_begins rmX7_begins [rf G 7 0, iv v1] σ r0.2 := by
  unfold fX7_begins at hf
  refine Ctv_start (lv := [(0, rf G 7 0), (1, iv v1)]) (ret := none) (by decide +kernel) rfl hG (Nat.le_of_ble_eq_true rfl) rfl (fun p e s m args below meth c hC hr hlk => ?_)
  refine V_aload_n (k := 0) (q := 1) hC 0 rfl dX7_begins_0 rfl ?_
  refine V_getf (T := TX7) (k := 21) (q := 4) hC uX7_begins_7 rfl iD7 rfl (by decide) kX7_begins_f215 rfl dX7_begins_1 rfl ?_
  refine V_bipush (q := 6) hC (by decide) dX7_begins_4 rfl ?_
  refine V_icmp_ge (tgt := 29) (q := 9) hC (hs _ _ _) (Rg_c rfl) dX7_begins_6 (by decide) rfl (fun c1 => ?_) (fun c1 => ?_)
  · replace hf := (if_pos c1).symm.trans hf
    exact V_vret hC hr hlk (re_2 hf) hs dX7_begins_29
  · replace hf := (if_neg c1).symm.trans hf
    refine V_aload_n (k := 0) (q := 10) hC 0 rfl dX7_begins_9 rfl ?_
    refine V_getf (T := TX7) (k := 20) (q := 13) hC uX7_begins_7 rfl iD7 rfl (by decide) kX7_begins_f44 rfl dX7_begins_10 rfl ?_
    refine V_aload_n (k := 0) (q := 14) hC 0 rfl dX7_begins_13 rfl ?_
    refine V_getf (T := TX7) (k := 21) (q := 17) hC uX7_begins_7 rfl iD7 rfl (by decide) kX7_begins_f215 rfl dX7_begins_14 rfl ?_
    refine V_iload_n (k := 1) (q := 18) hC 1 rfl dX7_begins_17 rfl ?_
    obtain ⟨g2, hf⟩ := gd_some hf
    obtain ⟨σ3, e4, hf⟩ := sq_ex hf
    have hs5 : RgS σ3 := by rw [e4]; exact RgS_hup hs h1
    refine V_iast (n := 16) (q := 19) hC iD33 rfl g2 (hs _ _ _) e4 dX7_begins_18 rfl ?_
    refine V_aload_n (k := 0) (q := 20) hC 0 rfl dX7_begins_19 rfl ?_
    refine V_dup (q := 21) hC rfl dX7_begins_20 rfl ?_
    refine V_getf (T := TX7) (k := 21) (q := 24) hC uX7_begins_7 rfl iD7 rfl (by decide) kX7_begins_f215 rfl dX7_begins_21 rfl ?_
    refine V_iconst (q := 25) hC dX7_begins_24 rfl ?_
    refine V_iadd (q := 26) hC dX7_begins_25 rfl ?_
    obtain ⟨σ6, e7, hf⟩ := sq_ex hf
    have hs8 : RgS σ6 := by rw [e7]; exact RgS_hup hs5 (Rg_wr _)
    refine V_putf (T := TX7) (k := 21) (ty := .int) (q := 29) hC uX7_begins_7 rfl tyX7 tyX7_ok nmX7 iD7 rfl (pf_7_21 _ _ _ _ rfl) (by decide) kX7_begins_f215 rfl (by decide +kernel) rfl rfl (Nat.le_of_ble_eq_true rfl) e7 dX7_begins_26 rfl ?_
    exact V_vret hC hr hlk (re_2 hf) hs8 dX7_begins_29
/-! X7_beechMark -/
theorem kX7_beechMark_f25 : Cond.fieldLink RX7 25 "BarkNamesModel" "now" "[I" ∈ wsX7_beechMark := by decide +kernel
theorem uX7_beechMark_7 : ∀ w ∈ u_ws RX7 TX7 22, w ∈ wsX7_beechMark := by decide +kernel
abbrev rmX7_beechMark : Room := { frames := 1, cells := 0, slots := 0, locals := 21 }
set_option maxHeartbeats 4000000 in
set_option maxRecDepth 100000 in
theorem tjX7_beechMark_27 {p : Program} {l : Launch} {e : Env} {s : State} {m : MethodId} {args : Array Value} {below : List Frame} {meth : Method} {c : Code} {G : GT} (hG : GI G) (hC : CX p s m args c cX7_beechMark 4 RX7 wsX7_beechMark G (AA G)) (hr : meth.sig.returnType = (some .int)) (hlk : meth.locks = false) {r0 : Int × Hp} {σ : Hp} (hs : RgS σ) {v1 : Int} {v2 : Int} (h1 : Rg v1) (h2 : Rg v2) (hf : jX7_beechMark_27 σ v1 v2 = some r0) : VV p l e (headSpec wsX7_beechMark rmX7_beechMark).room s m args below meth c (MQ below (QI G r0.1 r0.2) args s 0 0 (AA G)) G (AA G) 0 0 4 σ 27 [(0, rf G 7 0), (1, iv v1), (2, iv v2)] [] := by
  unfold jX7_beechMark_27 at hf
  refine V_aload_n (k := 0) (q := 28) hC 0 rfl dX7_beechMark_27 rfl ?_
  refine V_bipush (q := 30) hC (by decide) dX7_beechMark_28 rfl ?_
  obtain ⟨r18, σ19, hc20, hf⟩ := cl_some hf
  refine V_cvv (st := []) (q := 33) (σ0 := σ19) hC (sX7_begins l hG (Rg_c rfl) hs hc20) (cwV 1 hC.2.2.2.2.1 gX7_beechMark_X7_begins rfl rfl rfl (by decide +kernel) ⟨Nat.le_of_ble_eq_true rfl, Nat.le_of_ble_eq_true rfl⟩) ⟨_, rfl, rfl⟩ iD7 (fun _ => ⟨_, rfl⟩) rfl rfl (Nat.le_of_ble_eq_true rfl) dX7_beechMark_30 rfl ⟨Nat.zero_le _, Nat.zero_le _⟩ (fun hs22 => ?_)
  refine V_aload_n (k := 0) (q := 34) hC 0 rfl dX7_beechMark_33 rfl ?_
  refine V_bipush (q := 36) hC (by decide) dX7_beechMark_34 rfl ?_
  obtain ⟨r23, σ24, hc25, hf⟩ := cl_some hf
  refine V_cvv (st := []) (q := 39) (σ0 := σ24) hC (sX7_begins l hG (Rg_c rfl) hs22 hc25) (cwV 1 hC.2.2.2.2.1 gX7_beechMark_X7_begins rfl rfl rfl (by decide +kernel) ⟨Nat.le_of_ble_eq_true rfl, Nat.le_of_ble_eq_true rfl⟩) ⟨_, rfl, rfl⟩ iD7 (fun _ => ⟨_, rfl⟩) rfl rfl (Nat.le_of_ble_eq_true rfl) dX7_beechMark_36 rfl ⟨Nat.zero_le _, Nat.zero_le _⟩ (fun hs27 => ?_)
  refine V_iload_n (k := 1) (q := 40) hC 1 rfl dX7_beechMark_39 rfl ?_
  refine V_aload_n (k := 0) (q := 41) hC 0 rfl dX7_beechMark_40 rfl ?_
  refine V_getf (T := TX7) (k := 13) (q := 44) hC uX7_beechMark_7 rfl iD7 rfl (by decide) kX7_beechMark_f25 rfl dX7_beechMark_41 rfl ?_
  refine V_iconst (q := 45) hC dX7_beechMark_44 rfl ?_
  refine V_iconst (q := 46) hC dX7_beechMark_45 rfl ?_
  refine V_iload_n (k := 1) (q := 47) hC 1 rfl dX7_beechMark_46 rfl ?_
  refine V_imul (q := 48) hC dX7_beechMark_47 rfl ?_
  refine V_iadd (q := 49) hC dX7_beechMark_48 rfl ?_
  refine V_iconst (q := 50) hC dX7_beechMark_49 rfl ?_
  refine V_iadd (q := 51) hC dX7_beechMark_50 rfl ?_
  obtain ⟨g28, hf⟩ := gd_some hf
  refine V_iald (n := 48) (q := 52) hC iD27 rfl g28 (Rg_wr _) dX7_beechMark_51 rfl ?_
  refine V_iadd (q := 53) hC dX7_beechMark_52 rfl ?_
  refine V_istore_n (k := 3) (i := 3) (lv' := [(0, rf G 7 0), (1, iv v1), (2, iv v2), (3, iv (wr (v1 + (σ24 27 0 (wr ((wr (4 + (wr (3 * v1)))) + 1)).toNat))))]) (q := 54) hC [1, 2, 3, 0] rfl (by decide) rfl dX7_beechMark_53 rfl ?_
  refine V_iload_n (k := 2) (q := 55) hC 2 rfl dX7_beechMark_54 rfl ?_
  refine V_iconst (q := 56) hC dX7_beechMark_55 rfl ?_
  refine V_icmp_ne (tgt := 65) (q := 59) hC h2 (Rg_c rfl) dX7_beechMark_56 (by decide) rfl (fun c29 => ?_) (fun c29 => ?_)
  · replace hf := (if_neg c29).symm.trans hf
    refine V_iload_n (k := 2) (q := 66) hC 2 rfl dX7_beechMark_65 rfl ?_
    refine V_iconst (q := 67) hC dX7_beechMark_66 rfl ?_
    refine V_icmp_ne (tgt := 78) (q := 70) hC h2 (Rg_c rfl) dX7_beechMark_67 (by decide) rfl (fun c30 => ?_) (fun c30 => ?_)
    · replace hf := (if_neg c30).symm.trans hf
      refine V_iload_n (k := 3) (q := 79) hC 3 rfl dX7_beechMark_78 rfl ?_
      exact V_iret hC hr hlk (re_1 hf) (re_2 hf) (Rg_wr _) hs27 dX7_beechMark_79
    · replace hf := (if_pos c30).symm.trans hf
      refine V_iload_n (k := 3) (q := 71) hC 3 rfl dX7_beechMark_70 rfl ?_
      refine V_sipush (q := 74) hC (by decide) dX7_beechMark_71 rfl ?_
      refine V_isub (q := 75) hC dX7_beechMark_74 rfl ?_
      refine V_goto (tgt := 79) hC dX7_beechMark_75 (by decide) ?_
      exact V_iret hC hr hlk (re_1 hf) (re_2 hf) (Rg_wr _) hs27 dX7_beechMark_79
  · replace hf := (if_pos c29).symm.trans hf
    refine V_iconst (q := 60) hC dX7_beechMark_59 rfl ?_
    refine V_iload_n (k := 3) (q := 61) hC 3 rfl dX7_beechMark_60 rfl ?_
    refine V_imul (q := 62) hC dX7_beechMark_61 rfl ?_
    refine V_goto (tgt := 79) hC dX7_beechMark_62 (by decide) ?_
    exact V_iret hC hr hlk (re_1 hf) (re_2 hf) (Rg_wr _) hs27 dX7_beechMark_79
set_option maxHeartbeats 4000000 in
set_option maxRecDepth 100000 in
theorem sX7_beechMark (l : Launch) {G : GT} (hG : GI G) {v1 : Int} (h1 : Rg v1) {σ : Hp} (hs : RgS σ) {r0 : Int × Hp} (hf : fX7_beechMark σ v1 = some r0) : Cti l G yX7_beechMark wsX7_beechMark rmX7_beechMark [rf G 7 0, iv v1] σ r0.1 r0.2 := by
  unfold fX7_beechMark at hf
  refine Cti_start (lv := [(0, rf G 7 0), (1, iv v1)]) (ret := (some .int)) (by decide +kernel) rfl hG (Nat.le_of_ble_eq_true rfl) rfl (fun p e s m args below meth c hC hr hlk => ?_)
  refine V_aload_n (k := 0) (q := 1) hC 0 rfl dX7_beechMark_0 rfl ?_
  refine V_iload_n (k := 1) (q := 2) hC 1 rfl dX7_beechMark_1 rfl ?_
  obtain ⟨r1, σ2, hc3, hf⟩ := cl_some hf
  refine V_cvi (st := []) (q := 5) (x0 := r1) (σ0 := σ2) hC (sX7_kindIn l hG h1 hs hc3) (cwV 1 hC.2.2.2.2.1 gX7_beechMark_X7_kindIn rfl rfl rfl (by decide +kernel) ⟨Nat.le_of_ble_eq_true rfl, Nat.le_of_ble_eq_true rfl⟩) ⟨_, rfl, rfl⟩ iD7 (fun _ => ⟨_, rfl⟩) rfl rfl (Nat.le_of_ble_eq_true rfl) dX7_beechMark_2 rfl ⟨Nat.zero_le _, Nat.zero_le _⟩ (fun hr4 hs5 => ?_)
  refine V_istore_n (k := 2) (i := 2) (lv' := [(0, rf G 7 0), (1, iv v1), (2, iv r1)]) (q := 6) hC [1, 2, 0] rfl (by decide) rfl dX7_beechMark_5 rfl ?_
  refine V_iload_n (k := 2) (q := 7) hC 2 rfl dX7_beechMark_6 rfl ?_
  refine V_iconst (q := 8) hC dX7_beechMark_7 rfl ?_
  refine V_icmp_eq (tgt := 27) (q := 11) hC hr4 (Rg_c rfl) dX7_beechMark_8 (by decide) rfl (fun c6 => ?_) (fun c6 => ?_)
  · replace hf := (if_pos c6).symm.trans hf
    refine V_lsub [0, 1, 2] rfl ?_
    exact tjX7_beechMark_27 hG hC hr hlk hs5 h1 hr4 hf
  · replace hf := (if_neg c6).symm.trans hf
    refine V_aload_n (k := 0) (q := 12) hC 0 rfl dX7_beechMark_11 rfl ?_
    refine V_iload_n (k := 2) (q := 13) hC 2 rfl dX7_beechMark_12 rfl ?_
    refine V_iconst (q := 14) hC dX7_beechMark_13 rfl ?_
    refine V_icmp_ne (tgt := 22) (q := 17) hC hr4 (Rg_c rfl) dX7_beechMark_14 (by decide) rfl (fun c7 => ?_) (fun c7 => ?_)
    · replace hf := (if_neg c7).symm.trans hf
      refine V_bipush (q := 24) hC (by decide) dX7_beechMark_22 rfl ?_
      obtain ⟨r8, σ9, hc10, hf⟩ := cl_some hf
      refine V_cvv (st := []) (q := 27) (σ0 := σ9) hC (sX7_begins l hG (Rg_c rfl) hs5 hc10) (cwV 1 hC.2.2.2.2.1 gX7_beechMark_X7_begins rfl rfl rfl (by decide +kernel) ⟨Nat.le_of_ble_eq_true rfl, Nat.le_of_ble_eq_true rfl⟩) ⟨_, rfl, rfl⟩ iD7 (fun _ => ⟨_, rfl⟩) rfl rfl (Nat.le_of_ble_eq_true rfl) dX7_beechMark_24 rfl ⟨Nat.zero_le _, Nat.zero_le _⟩ (fun hs12 => ?_)
      refine V_lsub [0, 1, 2] rfl ?_
      exact tjX7_beechMark_27 hG hC hr hlk hs12 h1 hr4 hf
    · replace hf := (if_pos c7).symm.trans hf
      refine V_bipush (q := 19) hC (by decide) dX7_beechMark_17 rfl ?_
      refine V_goto (tgt := 24) hC dX7_beechMark_19 (by decide) ?_
      obtain ⟨r13, σ14, hc15, hf⟩ := cl_some hf
      refine V_cvv (st := []) (q := 27) (σ0 := σ14) hC (sX7_begins l hG (Rg_c rfl) hs5 hc15) (cwV 1 hC.2.2.2.2.1 gX7_beechMark_X7_begins rfl rfl rfl (by decide +kernel) ⟨Nat.le_of_ble_eq_true rfl, Nat.le_of_ble_eq_true rfl⟩) ⟨_, rfl, rfl⟩ iD7 (fun _ => ⟨_, rfl⟩) rfl rfl (Nat.le_of_ble_eq_true rfl) dX7_beechMark_24 rfl ⟨Nat.zero_le _, Nat.zero_le _⟩ (fun hs17 => ?_)
      refine V_lsub [0, 1, 2] rfl ?_
      exact tjX7_beechMark_27 hG hC hr hlk hs17 h1 hr4 hf
/-! X7_pineSize -/
theorem kX7_pineSize_f25 : Cond.fieldLink RX7 25 "BarkNamesModel" "now" "[I" ∈ wsX7_pineSize := by decide +kernel
theorem uX7_pineSize_7 : ∀ w ∈ u_ws RX7 TX7 22, w ∈ wsX7_pineSize := by decide +kernel
abbrev rmX7_pineSize : Room := { frames := 1, cells := 0, slots := 0, locals := 21 }
set_option maxHeartbeats 4000000 in
set_option maxRecDepth 100000 in
theorem tjX7_pineSize_25 {p : Program} {l : Launch} {e : Env} {s : State} {m : MethodId} {args : Array Value} {below : List Frame} {meth : Method} {c : Code} {G : GT} (hG : GI G) (hC : CX p s m args c cX7_pineSize 4 RX7 wsX7_pineSize G (AA G)) (hr : meth.sig.returnType = (some .int)) (hlk : meth.locks = false) {r0 : Int × Hp} {σ : Hp} (hs : RgS σ) {v1 : Int} {v2 : Int} (h1 : Rg v1) (h2 : Rg v2) (hf : jX7_pineSize_25 σ v1 v2 = some r0) : VV p l e (headSpec wsX7_pineSize rmX7_pineSize).room s m args below meth c (MQ below (QI G r0.1 r0.2) args s 0 0 (AA G)) G (AA G) 0 0 4 σ 25 [(0, rf G 7 0), (1, iv v1), (2, iv v2)] [] := by
  unfold jX7_pineSize_25 at hf
  refine V_aload_n (k := 0) (q := 26) hC 0 rfl dX7_pineSize_25 rfl ?_
  refine V_bipush (q := 28) hC (by decide) dX7_pineSize_26 rfl ?_
  obtain ⟨r13, σ14, hc15, hf⟩ := cl_some hf
  refine V_cvv (st := []) (q := 31) (σ0 := σ14) hC (sX7_begins l hG (Rg_c rfl) hs hc15) (cwV 1 hC.2.2.2.2.1 gX7_pineSize_X7_begins rfl rfl rfl (by decide +kernel) ⟨Nat.le_of_ble_eq_true rfl, Nat.le_of_ble_eq_true rfl⟩) ⟨_, rfl, rfl⟩ iD7 (fun _ => ⟨_, rfl⟩) rfl rfl (Nat.le_of_ble_eq_true rfl) dX7_pineSize_28 rfl ⟨Nat.zero_le _, Nat.zero_le _⟩ (fun hs17 => ?_)
  refine V_aload_n (k := 0) (q := 32) hC 0 rfl dX7_pineSize_31 rfl ?_
  refine V_bipush (q := 34) hC (by decide) dX7_pineSize_32 rfl ?_
  obtain ⟨r18, σ19, hc20, hf⟩ := cl_some hf
  refine V_cvv (st := []) (q := 37) (σ0 := σ19) hC (sX7_begins l hG (Rg_c rfl) hs17 hc20) (cwV 1 hC.2.2.2.2.1 gX7_pineSize_X7_begins rfl rfl rfl (by decide +kernel) ⟨Nat.le_of_ble_eq_true rfl, Nat.le_of_ble_eq_true rfl⟩) ⟨_, rfl, rfl⟩ iD7 (fun _ => ⟨_, rfl⟩) rfl rfl (Nat.le_of_ble_eq_true rfl) dX7_pineSize_34 rfl ⟨Nat.zero_le _, Nat.zero_le _⟩ (fun hs22 => ?_)
  refine V_aload_n (k := 0) (q := 38) hC 0 rfl dX7_pineSize_37 rfl ?_
  refine V_getf (T := TX7) (k := 13) (q := 41) hC uX7_pineSize_7 rfl iD7 rfl (by decide) kX7_pineSize_f25 rfl dX7_pineSize_38 rfl ?_
  refine V_iconst (q := 42) hC dX7_pineSize_41 rfl ?_
  refine V_iconst (q := 43) hC dX7_pineSize_42 rfl ?_
  refine V_iload_n (k := 1) (q := 44) hC 1 rfl dX7_pineSize_43 rfl ?_
  refine V_imul (q := 45) hC dX7_pineSize_44 rfl ?_
  refine V_iadd (q := 46) hC dX7_pineSize_45 rfl ?_
  refine V_iconst (q := 47) hC dX7_pineSize_46 rfl ?_
  refine V_iadd (q := 48) hC dX7_pineSize_47 rfl ?_
  obtain ⟨g23, hf⟩ := gd_some hf
  refine V_iald (n := 48) (q := 49) hC iD27 rfl g23 (Rg_wr _) dX7_pineSize_48 rfl ?_
  refine V_bipush (q := 51) hC (by decide) dX7_pineSize_49 rfl ?_
  refine V_isub (q := 52) hC dX7_pineSize_51 rfl ?_
  refine V_istore_n (k := 3) (i := 3) (lv' := [(0, rf G 7 0), (1, iv v1), (2, iv v2), (3, iv (wr ((σ19 27 0 (wr ((wr (4 + (wr (3 * v1)))) + 2)).toNat) - 100)))]) (q := 53) hC [1, 2, 3, 0] rfl (by decide) rfl dX7_pineSize_52 rfl ?_
  refine V_iload_n (k := 2) (q := 54) hC 2 rfl dX7_pineSize_53 rfl ?_
  refine V_if_eq (tgt := 63) (q := 57) hC h2 dX7_pineSize_54 (by decide) rfl (fun c24 => ?_) (fun c24 => ?_)
  · replace hf := (if_pos c24).symm.trans hf
    refine V_iload_n (k := 3) (q := 64) hC 3 rfl dX7_pineSize_63 rfl ?_
    exact V_iret hC hr hlk (re_1 hf) (re_2 hf) (Rg_wr _) hs22 dX7_pineSize_64
  · replace hf := (if_neg c24).symm.trans hf
    refine V_iconst (q := 58) hC dX7_pineSize_57 rfl ?_
    refine V_iload_n (k := 3) (q := 59) hC 3 rfl dX7_pineSize_58 rfl ?_
    refine V_imul (q := 60) hC dX7_pineSize_59 rfl ?_
    refine V_goto (tgt := 64) hC dX7_pineSize_60 (by decide) ?_
    exact V_iret hC hr hlk (re_1 hf) (re_2 hf) (Rg_wr _) hs22 dX7_pineSize_64
set_option maxHeartbeats 4000000 in
set_option maxRecDepth 100000 in
theorem tjX7_pineSize_14 {p : Program} {l : Launch} {e : Env} {s : State} {m : MethodId} {args : Array Value} {below : List Frame} {meth : Method} {c : Code} {G : GT} (hG : GI G) (hC : CX p s m args c cX7_pineSize 4 RX7 wsX7_pineSize G (AA G)) (hr : meth.sig.returnType = (some .int)) (hlk : meth.locks = false) {r0 : Int × Hp} {σ : Hp} (hs : RgS σ) {v1 : Int} {w0 : Int} (h1 : Rg v1) (hw0 : Rg w0) (hf : jX7_pineSize_14 σ v1 w0 = some r0) : VV p l e (headSpec wsX7_pineSize rmX7_pineSize).room s m args below meth c (MQ below (QI G r0.1 r0.2) args s 0 0 (AA G)) G (AA G) 0 0 4 σ 14 [(0, rf G 7 0), (1, iv v1)] [iv w0] := by
  unfold jX7_pineSize_14 at hf
  refine V_istore_n (k := 2) (i := 2) (lv' := [(0, rf G 7 0), (1, iv v1), (2, iv w0)]) (q := 15) hC [1, 2, 0] rfl (by decide) rfl dX7_pineSize_14 rfl ?_
  refine V_iload_n (k := 2) (q := 16) hC 2 rfl dX7_pineSize_15 rfl ?_
  refine V_if_eq (tgt := 25) (q := 19) hC hw0 dX7_pineSize_16 (by decide) rfl (fun c7 => ?_) (fun c7 => ?_)
  · replace hf := (if_pos c7).symm.trans hf
    refine V_lsub [0, 1, 2] rfl ?_
    exact tjX7_pineSize_25 hG hC hr hlk hs h1 hw0 hf
  · replace hf := (if_neg c7).symm.trans hf
    refine V_aload_n (k := 0) (q := 20) hC 0 rfl dX7_pineSize_19 rfl ?_
    refine V_bipush (q := 22) hC (by decide) dX7_pineSize_20 rfl ?_
    obtain ⟨r8, σ9, hc10, hf⟩ := cl_some hf
    refine V_cvv (st := []) (q := 25) (σ0 := σ9) hC (sX7_begins l hG (Rg_c rfl) hs hc10) (cwV 1 hC.2.2.2.2.1 gX7_pineSize_X7_begins rfl rfl rfl (by decide +kernel) ⟨Nat.le_of_ble_eq_true rfl, Nat.le_of_ble_eq_true rfl⟩) ⟨_, rfl, rfl⟩ iD7 (fun _ => ⟨_, rfl⟩) rfl rfl (Nat.le_of_ble_eq_true rfl) dX7_pineSize_22 rfl ⟨Nat.zero_le _, Nat.zero_le _⟩ (fun hs12 => ?_)
    refine V_lsub [0, 1, 2] rfl ?_
    exact tjX7_pineSize_25 hG hC hr hlk hs12 h1 hw0 hf
set_option maxHeartbeats 4000000 in
set_option maxRecDepth 100000 in
theorem sX7_pineSize (l : Launch) {G : GT} (hG : GI G) {v1 : Int} (h1 : Rg v1) {σ : Hp} (hs : RgS σ) {r0 : Int × Hp} (hf : fX7_pineSize σ v1 = some r0) : Cti l G yX7_pineSize wsX7_pineSize rmX7_pineSize [rf G 7 0, iv v1] σ r0.1 r0.2 := by
  unfold fX7_pineSize at hf
  refine Cti_start (lv := [(0, rf G 7 0), (1, iv v1)]) (ret := (some .int)) (by decide +kernel) rfl hG (Nat.le_of_ble_eq_true rfl) rfl (fun p e s m args below meth c hC hr hlk => ?_)
  refine V_aload_n (k := 0) (q := 1) hC 0 rfl dX7_pineSize_0 rfl ?_
  refine V_iload_n (k := 1) (q := 2) hC 1 rfl dX7_pineSize_1 rfl ?_
  obtain ⟨r1, σ2, hc3, hf⟩ := cl_some hf
  refine V_cvi (st := []) (q := 5) (x0 := r1) (σ0 := σ2) hC (sX7_kindIn l hG h1 hs hc3) (cwV 1 hC.2.2.2.2.1 gX7_pineSize_X7_kindIn rfl rfl rfl (by decide +kernel) ⟨Nat.le_of_ble_eq_true rfl, Nat.le_of_ble_eq_true rfl⟩) ⟨_, rfl, rfl⟩ iD7 (fun _ => ⟨_, rfl⟩) rfl rfl (Nat.le_of_ble_eq_true rfl) dX7_pineSize_2 rfl ⟨Nat.zero_le _, Nat.zero_le _⟩ (fun hr4 hs5 => ?_)
  refine V_iconst (q := 6) hC dX7_pineSize_5 rfl ?_
  refine V_icmp_ne (tgt := 13) (q := 9) hC hr4 (Rg_c rfl) dX7_pineSize_6 (by decide) rfl (fun c6 => ?_) (fun c6 => ?_)
  · replace hf := (if_neg c6).symm.trans hf
    refine V_iconst (q := 14) hC dX7_pineSize_13 rfl ?_
    refine V_lsub [0, 1] rfl ?_
    exact tjX7_pineSize_14 hG hC hr hlk hs5 h1 (Rg_c rfl) hf
  · replace hf := (if_pos c6).symm.trans hf
    refine V_iconst (q := 10) hC dX7_pineSize_9 rfl ?_
    refine V_goto (tgt := 14) hC dX7_pineSize_10 (by decide) ?_
    refine V_lsub [0, 1] rfl ?_
    exact tjX7_pineSize_14 hG hC hr hlk hs5 h1 (Rg_c rfl) hf
/-! X7_beechSize -/
theorem kX7_beechSize_f25 : Cond.fieldLink RX7 25 "BarkNamesModel" "now" "[I" ∈ wsX7_beechSize := by decide +kernel
theorem uX7_beechSize_7 : ∀ w ∈ u_ws RX7 TX7 22, w ∈ wsX7_beechSize := by decide +kernel
abbrev rmX7_beechSize : Room := { frames := 2, cells := 0, slots := 0, locals := 44 }
set_option maxHeartbeats 4000000 in
set_option maxRecDepth 100000 in
theorem tjX7_beechSize_25 {p : Program} {l : Launch} {e : Env} {s : State} {m : MethodId} {args : Array Value} {below : List Frame} {meth : Method} {c : Code} {G : GT} (hG : GI G) (hC : CX p s m args c cX7_beechSize 4 RX7 wsX7_beechSize G (AA G)) (hr : meth.sig.returnType = (some .int)) (hlk : meth.locks = false) {r0 : Int × Hp} {σ : Hp} (hs : RgS σ) {v1 : Int} {v2 : Int} (h1 : Rg v1) (h2 : Rg v2) (hf : jX7_beechSize_25 σ v1 v2 = some r0) : VV p l e (headSpec wsX7_beechSize rmX7_beechSize).room s m args below meth c (MQ below (QI G r0.1 r0.2) args s 0 0 (AA G)) G (AA G) 0 0 4 σ 25 [(0, rf G 7 0), (1, iv v1), (2, iv v2)] [] := by
  unfold jX7_beechSize_25 at hf
  refine V_aload_n (k := 0) (q := 26) hC 0 rfl dX7_beechSize_25 rfl ?_
  refine V_bipush (q := 28) hC (by decide) dX7_beechSize_26 rfl ?_
  obtain ⟨r13, σ14, hc15, hf⟩ := cl_some hf
  refine V_cvv (st := []) (q := 31) (σ0 := σ14) hC (sX7_begins l hG (Rg_c rfl) hs hc15) (cwV 1 hC.2.2.2.2.1 gX7_beechSize_X7_begins rfl rfl rfl (by decide +kernel) ⟨Nat.le_of_ble_eq_true rfl, Nat.le_of_ble_eq_true rfl⟩) ⟨_, rfl, rfl⟩ iD7 (fun _ => ⟨_, rfl⟩) rfl rfl (Nat.le_of_ble_eq_true rfl) dX7_beechSize_28 rfl ⟨Nat.zero_le _, Nat.zero_le _⟩ (fun hs17 => ?_)
  refine V_aload_n (k := 0) (q := 32) hC 0 rfl dX7_beechSize_31 rfl ?_
  refine V_bipush (q := 34) hC (by decide) dX7_beechSize_32 rfl ?_
  obtain ⟨r18, σ19, hc20, hf⟩ := cl_some hf
  refine V_cvv (st := []) (q := 37) (σ0 := σ19) hC (sX7_begins l hG (Rg_c rfl) hs17 hc20) (cwV 1 hC.2.2.2.2.1 gX7_beechSize_X7_begins rfl rfl rfl (by decide +kernel) ⟨Nat.le_of_ble_eq_true rfl, Nat.le_of_ble_eq_true rfl⟩) ⟨_, rfl, rfl⟩ iD7 (fun _ => ⟨_, rfl⟩) rfl rfl (Nat.le_of_ble_eq_true rfl) dX7_beechSize_34 rfl ⟨Nat.zero_le _, Nat.zero_le _⟩ (fun hs22 => ?_)
  refine V_aload_n (k := 0) (q := 38) hC 0 rfl dX7_beechSize_37 rfl ?_
  refine V_getf (T := TX7) (k := 13) (q := 41) hC uX7_beechSize_7 rfl iD7 rfl (by decide) kX7_beechSize_f25 rfl dX7_beechSize_38 rfl ?_
  refine V_iconst (q := 42) hC dX7_beechSize_41 rfl ?_
  refine V_iconst (q := 43) hC dX7_beechSize_42 rfl ?_
  refine V_iload_n (k := 1) (q := 44) hC 1 rfl dX7_beechSize_43 rfl ?_
  refine V_imul (q := 45) hC dX7_beechSize_44 rfl ?_
  refine V_iadd (q := 46) hC dX7_beechSize_45 rfl ?_
  refine V_iconst (q := 47) hC dX7_beechSize_46 rfl ?_
  refine V_iadd (q := 48) hC dX7_beechSize_47 rfl ?_
  obtain ⟨g23, hf⟩ := gd_some hf
  refine V_iald (n := 48) (q := 49) hC iD27 rfl g23 (Rg_wr _) dX7_beechSize_48 rfl ?_
  refine V_aload_n (k := 0) (q := 50) hC 0 rfl dX7_beechSize_49 rfl ?_
  refine V_iload_n (k := 1) (q := 51) hC 1 rfl dX7_beechSize_50 rfl ?_
  obtain ⟨r24, σ25, hc26, hf⟩ := cl_some hf
  refine V_cvi (st := [iv (σ19 27 0 (wr ((wr (4 + (wr (3 * v1)))) + 2)).toNat)]) (q := 54) (x0 := r24) (σ0 := σ25) hC (sX7_beechMark l hG h1 hs22 hc26) (cwV 1 hC.2.2.2.2.1 gX7_beechSize_X7_beechMark rfl rfl rfl (by decide +kernel) ⟨Nat.le_of_ble_eq_true rfl, Nat.le_of_ble_eq_true rfl⟩) ⟨_, rfl, rfl⟩ iD7 (fun _ => ⟨_, rfl⟩) rfl rfl (Nat.le_of_ble_eq_true rfl) dX7_beechSize_51 rfl ⟨Nat.zero_le _, Nat.zero_le _⟩ (fun hr27 hs28 => ?_)
  refine V_iadd (q := 55) hC dX7_beechSize_54 rfl ?_
  refine V_istore_n (k := 3) (i := 3) (lv' := [(0, rf G 7 0), (1, iv v1), (2, iv v2), (3, iv (wr ((σ19 27 0 (wr ((wr (4 + (wr (3 * v1)))) + 2)).toNat) + r24)))]) (q := 56) hC [1, 2, 3, 0] rfl (by decide) rfl dX7_beechSize_55 rfl ?_
  refine V_iload_n (k := 2) (q := 57) hC 2 rfl dX7_beechSize_56 rfl ?_
  refine V_if_eq (tgt := 65) (q := 60) hC h2 dX7_beechSize_57 (by decide) rfl (fun c29 => ?_) (fun c29 => ?_)
  · replace hf := (if_pos c29).symm.trans hf
    refine V_iload_n (k := 3) (q := 66) hC 3 rfl dX7_beechSize_65 rfl ?_
    exact V_iret hC hr hlk (re_1 hf) (re_2 hf) (Rg_wr _) hs28 dX7_beechSize_66
  · replace hf := (if_neg c29).symm.trans hf
    refine V_iload_n (k := 3) (q := 61) hC 3 rfl dX7_beechSize_60 rfl ?_
    refine V_ineg (q := 62) hC dX7_beechSize_61 rfl ?_
    refine V_goto (tgt := 66) hC dX7_beechSize_62 (by decide) ?_
    exact V_iret hC hr hlk (re_1 hf) (re_2 hf) (Rg_wr _) hs28 dX7_beechSize_66
set_option maxHeartbeats 4000000 in
set_option maxRecDepth 100000 in
theorem tjX7_beechSize_14 {p : Program} {l : Launch} {e : Env} {s : State} {m : MethodId} {args : Array Value} {below : List Frame} {meth : Method} {c : Code} {G : GT} (hG : GI G) (hC : CX p s m args c cX7_beechSize 4 RX7 wsX7_beechSize G (AA G)) (hr : meth.sig.returnType = (some .int)) (hlk : meth.locks = false) {r0 : Int × Hp} {σ : Hp} (hs : RgS σ) {v1 : Int} {w0 : Int} (h1 : Rg v1) (hw0 : Rg w0) (hf : jX7_beechSize_14 σ v1 w0 = some r0) : VV p l e (headSpec wsX7_beechSize rmX7_beechSize).room s m args below meth c (MQ below (QI G r0.1 r0.2) args s 0 0 (AA G)) G (AA G) 0 0 4 σ 14 [(0, rf G 7 0), (1, iv v1)] [iv w0] := by
  unfold jX7_beechSize_14 at hf
  refine V_istore_n (k := 2) (i := 2) (lv' := [(0, rf G 7 0), (1, iv v1), (2, iv w0)]) (q := 15) hC [1, 2, 0] rfl (by decide) rfl dX7_beechSize_14 rfl ?_
  refine V_iload_n (k := 2) (q := 16) hC 2 rfl dX7_beechSize_15 rfl ?_
  refine V_if_eq (tgt := 25) (q := 19) hC hw0 dX7_beechSize_16 (by decide) rfl (fun c7 => ?_) (fun c7 => ?_)
  · replace hf := (if_pos c7).symm.trans hf
    refine V_lsub [0, 1, 2] rfl ?_
    exact tjX7_beechSize_25 hG hC hr hlk hs h1 hw0 hf
  · replace hf := (if_neg c7).symm.trans hf
    refine V_aload_n (k := 0) (q := 20) hC 0 rfl dX7_beechSize_19 rfl ?_
    refine V_bipush (q := 22) hC (by decide) dX7_beechSize_20 rfl ?_
    obtain ⟨r8, σ9, hc10, hf⟩ := cl_some hf
    refine V_cvv (st := []) (q := 25) (σ0 := σ9) hC (sX7_begins l hG (Rg_c rfl) hs hc10) (cwV 1 hC.2.2.2.2.1 gX7_beechSize_X7_begins rfl rfl rfl (by decide +kernel) ⟨Nat.le_of_ble_eq_true rfl, Nat.le_of_ble_eq_true rfl⟩) ⟨_, rfl, rfl⟩ iD7 (fun _ => ⟨_, rfl⟩) rfl rfl (Nat.le_of_ble_eq_true rfl) dX7_beechSize_22 rfl ⟨Nat.zero_le _, Nat.zero_le _⟩ (fun hs12 => ?_)
    refine V_lsub [0, 1, 2] rfl ?_
    exact tjX7_beechSize_25 hG hC hr hlk hs12 h1 hw0 hf
set_option maxHeartbeats 4000000 in
set_option maxRecDepth 100000 in
theorem sX7_beechSize (l : Launch) {G : GT} (hG : GI G) {v1 : Int} (h1 : Rg v1) {σ : Hp} (hs : RgS σ) {r0 : Int × Hp} (hf : fX7_beechSize σ v1 = some r0) : Cti l G yX7_beechSize wsX7_beechSize rmX7_beechSize [rf G 7 0, iv v1] σ r0.1 r0.2 := by
  unfold fX7_beechSize at hf
  refine Cti_start (lv := [(0, rf G 7 0), (1, iv v1)]) (ret := (some .int)) (by decide +kernel) rfl hG (Nat.le_of_ble_eq_true rfl) rfl (fun p e s m args below meth c hC hr hlk => ?_)
  refine V_aload_n (k := 0) (q := 1) hC 0 rfl dX7_beechSize_0 rfl ?_
  refine V_iload_n (k := 1) (q := 2) hC 1 rfl dX7_beechSize_1 rfl ?_
  obtain ⟨r1, σ2, hc3, hf⟩ := cl_some hf
  refine V_cvi (st := []) (q := 5) (x0 := r1) (σ0 := σ2) hC (sX7_kindIn l hG h1 hs hc3) (cwV 1 hC.2.2.2.2.1 gX7_beechSize_X7_kindIn rfl rfl rfl (by decide +kernel) ⟨Nat.le_of_ble_eq_true rfl, Nat.le_of_ble_eq_true rfl⟩) ⟨_, rfl, rfl⟩ iD7 (fun _ => ⟨_, rfl⟩) rfl rfl (Nat.le_of_ble_eq_true rfl) dX7_beechSize_2 rfl ⟨Nat.zero_le _, Nat.zero_le _⟩ (fun hr4 hs5 => ?_)
  refine V_iconst (q := 6) hC dX7_beechSize_5 rfl ?_
  refine V_icmp_ne (tgt := 13) (q := 9) hC hr4 (Rg_c rfl) dX7_beechSize_6 (by decide) rfl (fun c6 => ?_) (fun c6 => ?_)
  · replace hf := (if_neg c6).symm.trans hf
    refine V_iconst (q := 14) hC dX7_beechSize_13 rfl ?_
    refine V_lsub [0, 1] rfl ?_
    exact tjX7_beechSize_14 hG hC hr hlk hs5 h1 (Rg_c rfl) hf
  · replace hf := (if_pos c6).symm.trans hf
    refine V_iconst (q := 10) hC dX7_beechSize_9 rfl ?_
    refine V_goto (tgt := 14) hC dX7_beechSize_10 (by decide) ?_
    refine V_lsub [0, 1] rfl ?_
    exact tjX7_beechSize_14 hG hC hr hlk hs5 h1 (Rg_c rfl) hf
/-! X7_pineMark -/
abbrev rmX7_pineMark : Room := { frames := 2, cells := 0, slots := 0, locals := 44 }
set_option maxHeartbeats 4000000 in
set_option maxRecDepth 100000 in
theorem sX7_pineMark (l : Launch) {G : GT} (hG : GI G) {v1 : Int} (h1 : Rg v1) {σ : Hp} (hs : RgS σ) {r0 : Int × Hp} (hf : fX7_pineMark σ v1 = some r0) : Cti l G yX7_pineMark wsX7_pineMark rmX7_pineMark [rf G 7 0, iv v1] σ r0.1 r0.2 := by
  unfold fX7_pineMark at hf
  refine Cti_start (lv := [(0, rf G 7 0), (1, iv v1)]) (ret := (some .int)) (by decide +kernel) rfl hG (Nat.le_of_ble_eq_true rfl) rfl (fun p e s m args below meth c hC hr hlk => ?_)
  refine V_aload_n (k := 0) (q := 1) hC 0 rfl dX7_pineMark_0 rfl ?_
  refine V_bipush (q := 3) hC (by decide) dX7_pineMark_1 rfl ?_
  obtain ⟨r1, σ2, hc3, hf⟩ := cl_some hf
  refine V_cvv (st := []) (q := 6) (σ0 := σ2) hC (sX7_begins l hG (Rg_c rfl) hs hc3) (cwV 1 hC.2.2.2.2.1 gX7_pineMark_X7_begins rfl rfl rfl (by decide +kernel) ⟨Nat.le_of_ble_eq_true rfl, Nat.le_of_ble_eq_true rfl⟩) ⟨_, rfl, rfl⟩ iD7 (fun _ => ⟨_, rfl⟩) rfl rfl (Nat.le_of_ble_eq_true rfl) dX7_pineMark_3 rfl ⟨Nat.zero_le _, Nat.zero_le _⟩ (fun hs5 => ?_)
  refine V_aload_n (k := 0) (q := 7) hC 0 rfl dX7_pineMark_6 rfl ?_
  refine V_bipush (q := 9) hC (by decide) dX7_pineMark_7 rfl ?_
  obtain ⟨r6, σ7, hc8, hf⟩ := cl_some hf
  refine V_cvv (st := []) (q := 12) (σ0 := σ7) hC (sX7_begins l hG (Rg_c rfl) hs5 hc8) (cwV 1 hC.2.2.2.2.1 gX7_pineMark_X7_begins rfl rfl rfl (by decide +kernel) ⟨Nat.le_of_ble_eq_true rfl, Nat.le_of_ble_eq_true rfl⟩) ⟨_, rfl, rfl⟩ iD7 (fun _ => ⟨_, rfl⟩) rfl rfl (Nat.le_of_ble_eq_true rfl) dX7_pineMark_9 rfl ⟨Nat.zero_le _, Nat.zero_le _⟩ (fun hs10 => ?_)
  refine V_iload_n (k := 1) (q := 13) hC 1 rfl dX7_pineMark_12 rfl ?_
  refine V_aload_n (k := 0) (q := 14) hC 0 rfl dX7_pineMark_13 rfl ?_
  refine V_iload_n (k := 1) (q := 15) hC 1 rfl dX7_pineMark_14 rfl ?_
  obtain ⟨r11, σ12, hc13, hf⟩ := cl_some hf
  refine V_cvi (st := [iv v1]) (q := 18) (x0 := r11) (σ0 := σ12) hC (sX7_pineSize l hG h1 hs10 hc13) (cwV 1 hC.2.2.2.2.1 gX7_pineMark_X7_pineSize rfl rfl rfl (by decide +kernel) ⟨Nat.le_of_ble_eq_true rfl, Nat.le_of_ble_eq_true rfl⟩) ⟨_, rfl, rfl⟩ iD7 (fun _ => ⟨_, rfl⟩) rfl rfl (Nat.le_of_ble_eq_true rfl) dX7_pineMark_15 rfl ⟨Nat.zero_le _, Nat.zero_le _⟩ (fun hr14 hs15 => ?_)
  refine V_isub (q := 19) hC dX7_pineMark_18 rfl ?_
  exact V_iret hC hr hlk (re_1 hf) (re_2 hf) (Rg_wr _) hs15 dX7_pineMark_19
/-! X7_ask -/
theorem kX7_ask_c61 : Cond.constant RX7 61 (-1000001) ∈ wsX7_ask := by decide +kernel
theorem kX7_ask_f215 : Cond.fieldLink RX7 215 "BarkNamesModel" "traced" "I" ∈ wsX7_ask := by decide +kernel
theorem uX7_ask_7 : ∀ w ∈ u_ws RX7 TX7 22, w ∈ wsX7_ask := by decide +kernel
abbrev rmX7_ask : Room := { frames := 3, cells := 0, slots := 0, locals := 67 }
set_option maxHeartbeats 4000000 in
set_option maxRecDepth 100000 in
theorem tjX7_ask_39 {p : Program} {l : Launch} {e : Env} {s : State} {m : MethodId} {args : Array Value} {below : List Frame} {meth : Method} {c : Code} {G : GT} (hG : GI G) (hC : CX p s m args c cX7_ask 4 RX7 wsX7_ask G (AA G)) (hr : meth.sig.returnType = (some .int)) (hlk : meth.locks = false) {r0 : Int × Hp} {σ : Hp} (hs : RgS σ) {v1 : Int} {v2 : Int} {w0 : Int} (h1 : Rg v1) (h2 : Rg v2) (hw0 : Rg w0) (hf : jX7_ask_39 σ v1 v2 w0 = some r0) : VV p l e (headSpec wsX7_ask rmX7_ask).room s m args below meth c (MQ below (QI G r0.1 r0.2) args s 0 0 (AA G)) G (AA G) 0 0 4 σ 39 [(0, rf G 7 0), (1, iv v1), (2, iv v2)] [iv w0] := by
  unfold jX7_ask_39 at hf
  refine V_istore_n (k := 3) (i := 3) (lv' := [(0, rf G 7 0), (1, iv v1), (2, iv v2), (3, iv w0)]) (q := 40) hC [1, 2, 3, 0] rfl (by decide) rfl dX7_ask_39 rfl ?_
  refine V_iload_n (k := 2) (q := 41) hC 2 rfl dX7_ask_40 rfl ?_
  refine V_if_ne (tgt := 62) (q := 44) hC h2 dX7_ask_41 (by decide) rfl (fun c14 => ?_) (fun c14 => ?_)
  · replace hf := (if_neg c14).symm.trans hf
    refine V_iload_n (k := 3) (q := 63) hC 3 rfl dX7_ask_62 rfl ?_
    refine V_if_eq (tgt := 74) (q := 66) hC hw0 dX7_ask_63 (by decide) rfl (fun c15 => ?_) (fun c15 => ?_)
    · replace hf := (if_pos c15).symm.trans hf
      refine V_aload_n (k := 0) (q := 75) hC 0 rfl dX7_ask_74 rfl ?_
      refine V_iload_n (k := 1) (q := 76) hC 1 rfl dX7_ask_75 rfl ?_
      obtain ⟨r16, σ17, hc18, hf⟩ := cl_some hf
      refine V_cvi (st := []) (q := 79) (x0 := r16) (σ0 := σ17) hC (sX7_beechMark l hG h1 hs hc18) (cwV 1 hC.2.2.2.2.1 gX7_ask_X7_beechMark rfl rfl rfl (by decide +kernel) ⟨Nat.le_of_ble_eq_true rfl, Nat.le_of_ble_eq_true rfl⟩) ⟨_, rfl, rfl⟩ iD7 (fun _ => ⟨_, rfl⟩) rfl rfl (Nat.le_of_ble_eq_true rfl) dX7_ask_76 rfl ⟨Nat.zero_le _, Nat.zero_le _⟩ (fun hr19 hs20 => ?_)
      exact V_iret hC hr hlk (re_1 hf) (re_2 hf) hr19 hs20 dX7_ask_79
    · replace hf := (if_neg c15).symm.trans hf
      refine V_aload_n (k := 0) (q := 67) hC 0 rfl dX7_ask_66 rfl ?_
      refine V_iload_n (k := 1) (q := 68) hC 1 rfl dX7_ask_67 rfl ?_
      obtain ⟨r21, σ22, hc23, hf⟩ := cl_some hf
      refine V_cvi (st := []) (q := 71) (x0 := r21) (σ0 := σ22) hC (sX7_pineMark l hG h1 hs hc23) (cwV 1 hC.2.2.2.2.1 gX7_ask_X7_pineMark rfl rfl rfl (by decide +kernel) ⟨Nat.le_of_ble_eq_true rfl, Nat.le_of_ble_eq_true rfl⟩) ⟨_, rfl, rfl⟩ iD7 (fun _ => ⟨_, rfl⟩) rfl rfl (Nat.le_of_ble_eq_true rfl) dX7_ask_68 rfl ⟨Nat.zero_le _, Nat.zero_le _⟩ (fun hr24 hs25 => ?_)
      refine V_goto (tgt := 79) hC dX7_ask_71 (by decide) ?_
      exact V_iret hC hr hlk (re_1 hf) (re_2 hf) hr24 hs25 dX7_ask_79
  · replace hf := (if_pos c14).symm.trans hf
    refine V_iload_n (k := 3) (q := 45) hC 3 rfl dX7_ask_44 rfl ?_
    refine V_if_eq (tgt := 56) (q := 48) hC hw0 dX7_ask_45 (by decide) rfl (fun c26 => ?_) (fun c26 => ?_)
    · replace hf := (if_pos c26).symm.trans hf
      refine V_aload_n (k := 0) (q := 57) hC 0 rfl dX7_ask_56 rfl ?_
      refine V_iload_n (k := 1) (q := 58) hC 1 rfl dX7_ask_57 rfl ?_
      obtain ⟨r27, σ28, hc29, hf⟩ := cl_some hf
      refine V_cvi (st := []) (q := 61) (x0 := r27) (σ0 := σ28) hC (sX7_beechSize l hG h1 hs hc29) (cwV 1 hC.2.2.2.2.1 gX7_ask_X7_beechSize rfl rfl rfl (by decide +kernel) ⟨Nat.le_of_ble_eq_true rfl, Nat.le_of_ble_eq_true rfl⟩) ⟨_, rfl, rfl⟩ iD7 (fun _ => ⟨_, rfl⟩) rfl rfl (Nat.le_of_ble_eq_true rfl) dX7_ask_58 rfl ⟨Nat.zero_le _, Nat.zero_le _⟩ (fun hr30 hs31 => ?_)
      exact V_iret hC hr hlk (re_1 hf) (re_2 hf) hr30 hs31 dX7_ask_61
    · replace hf := (if_neg c26).symm.trans hf
      refine V_aload_n (k := 0) (q := 49) hC 0 rfl dX7_ask_48 rfl ?_
      refine V_iload_n (k := 1) (q := 50) hC 1 rfl dX7_ask_49 rfl ?_
      obtain ⟨r32, σ33, hc34, hf⟩ := cl_some hf
      refine V_cvi (st := []) (q := 53) (x0 := r32) (σ0 := σ33) hC (sX7_pineSize l hG h1 hs hc34) (cwV 1 hC.2.2.2.2.1 gX7_ask_X7_pineSize rfl rfl rfl (by decide +kernel) ⟨Nat.le_of_ble_eq_true rfl, Nat.le_of_ble_eq_true rfl⟩) ⟨_, rfl, rfl⟩ iD7 (fun _ => ⟨_, rfl⟩) rfl rfl (Nat.le_of_ble_eq_true rfl) dX7_ask_50 rfl ⟨Nat.zero_le _, Nat.zero_le _⟩ (fun hr35 hs36 => ?_)
      refine V_goto (tgt := 61) hC dX7_ask_53 (by decide) ?_
      exact V_iret hC hr hlk (re_1 hf) (re_2 hf) hr35 hs36 dX7_ask_61
set_option maxHeartbeats 4000000 in
set_option maxRecDepth 100000 in
theorem sX7_ask (l : Launch) {G : GT} (hG : GI G) {v1 : Int} {v2 : Int} (h1 : Rg v1) (h2 : Rg v2) {σ : Hp} (hs : RgS σ) {r0 : Int × Hp} (hf : fX7_ask σ v1 v2 = some r0) : Cti l G yX7_ask wsX7_ask rmX7_ask [rf G 7 0, iv v1, iv v2] σ r0.1 r0.2 := by
  unfold fX7_ask at hf
  refine Cti_start (lv := [(0, rf G 7 0), (1, iv v1), (2, iv v2)]) (ret := (some .int)) (by decide +kernel) rfl hG (Nat.le_of_ble_eq_true rfl) rfl (fun p e s m args below meth c hC hr hlk => ?_)
  refine V_aload_n (k := 0) (q := 1) hC 0 rfl dX7_ask_0 rfl ?_
  refine V_iload_n (k := 1) (q := 2) hC 1 rfl dX7_ask_1 rfl ?_
  refine V_cvi (st := []) (q := 5) hC (sX7_isTree l hG h1 hs) (cwV 1 hC.2.2.2.2.1 gX7_ask_X7_isTree rfl rfl rfl (by decide +kernel) ⟨Nat.le_of_ble_eq_true rfl, Nat.le_of_ble_eq_true rfl⟩) ⟨_, rfl, rfl⟩ iD7 (fun _ => ⟨_, rfl⟩) rfl rfl (Nat.le_of_ble_eq_true rfl) dX7_ask_2 rfl ⟨Nat.zero_le _, Nat.zero_le _⟩ (fun hr1 _ => ?_)
  refine V_if_eq (tgt := 17) (q := 8) hC hr1 dX7_ask_5 (by decide) rfl (fun c2 => ?_) (fun c2 => ?_)
  · replace hf := (if_pos c2).symm.trans hf
    refine V_ldc (q := 19) (n := (-1000001)) hC (by decide) kX7_ask_c61 dX7_ask_17 rfl ?_
    exact V_iret hC hr hlk (re_1 hf) (re_2 hf) (Rg_c rfl) hs dX7_ask_19
  · replace hf := (if_neg c2).symm.trans hf
    refine V_iload_n (k := 2) (q := 9) hC 2 rfl dX7_ask_8 rfl ?_
    refine V_iconst (q := 10) hC dX7_ask_9 rfl ?_
    refine V_iconst (q := 11) hC dX7_ask_10 rfl ?_
    refine V_csi (st := []) (q := 14) hC (sX7_in l hG h2 (Rg_c rfl) (Rg_c rfl) hs) (va_cwS 3 hC.2.2.2.2.1 gX7_ask_X7_in rfl rfl rfl (by decide +kernel) ⟨Nat.le_of_ble_eq_true rfl, Nat.le_of_ble_eq_true rfl⟩) rfl rfl (Nat.le_of_ble_eq_true rfl) dX7_ask_11 rfl ⟨Nat.zero_le _, Nat.zero_le _⟩ (fun hr3 _ => ?_)
    refine V_if_ne (tgt := 20) (q := 17) hC hr3 dX7_ask_14 (by decide) rfl (fun c4 => ?_) (fun c4 => ?_)
    · replace hf := (if_neg c4).symm.trans hf
      refine V_aload_n (k := 0) (q := 21) hC 0 rfl dX7_ask_20 rfl ?_
      refine V_iconst (q := 22) hC dX7_ask_21 rfl ?_
      obtain ⟨σ5, e6, hf⟩ := sq_ex hf
      have hs7 : RgS σ5 := by rw [e6]; exact RgS_hup hs (Rg_c rfl)
      refine V_putf (T := TX7) (k := 21) (ty := .int) (q := 25) hC uX7_ask_7 rfl tyX7 tyX7_ok nmX7 iD7 rfl (pf_7_21 _ _ _ _ rfl) (by decide) kX7_ask_f215 rfl (by decide +kernel) rfl rfl (Nat.le_of_ble_eq_true rfl) e6 dX7_ask_22 rfl ?_
      refine V_aload_n (k := 0) (q := 26) hC 0 rfl dX7_ask_25 rfl ?_
      refine V_iload_n (k := 1) (q := 27) hC 1 rfl dX7_ask_26 rfl ?_
      obtain ⟨r8, σ9, hc10, hf⟩ := cl_some hf
      refine V_cvi (st := []) (q := 30) (x0 := r8) (σ0 := σ9) hC (sX7_kindIn l hG h1 hs7 hc10) (cwV 1 hC.2.2.2.2.1 gX7_ask_X7_kindIn rfl rfl rfl (by decide +kernel) ⟨Nat.le_of_ble_eq_true rfl, Nat.le_of_ble_eq_true rfl⟩) ⟨_, rfl, rfl⟩ iD7 (fun _ => ⟨_, rfl⟩) rfl rfl (Nat.le_of_ble_eq_true rfl) dX7_ask_27 rfl ⟨Nat.zero_le _, Nat.zero_le _⟩ (fun hr11 hs12 => ?_)
      refine V_iconst (q := 31) hC dX7_ask_30 rfl ?_
      refine V_icmp_lt (tgt := 38) (q := 34) hC hr11 (Rg_c rfl) dX7_ask_31 (by decide) rfl (fun c13 => ?_) (fun c13 => ?_)
      · replace hf := (if_pos c13).symm.trans hf
        refine V_iconst (q := 39) hC dX7_ask_38 rfl ?_
        refine V_lsub [0, 1, 2] rfl ?_
        exact tjX7_ask_39 hG hC hr hlk hs12 h1 h2 (Rg_c rfl) hf
      · replace hf := (if_neg c13).symm.trans hf
        refine V_iconst (q := 35) hC dX7_ask_34 rfl ?_
        refine V_goto (tgt := 39) hC dX7_ask_35 (by decide) ?_
        refine V_lsub [0, 1, 2] rfl ?_
        exact tjX7_ask_39 hG hC hr hlk hs12 h1 h2 (Rg_c rfl) hf
    · replace hf := (if_pos c4).symm.trans hf
      refine V_ldc (q := 19) (n := (-1000001)) hC (by decide) kX7_ask_c61 dX7_ask_17 rfl ?_
      exact V_iret hC hr hlk (re_1 hf) (re_2 hf) (Rg_c rfl) hs dX7_ask_19
/-! X7_trace -/
theorem kX7_trace_f215 : Cond.fieldLink RX7 215 "BarkNamesModel" "traced" "I" ∈ wsX7_trace := by decide +kernel
theorem uX7_trace_7 : ∀ w ∈ u_ws RX7 TX7 22, w ∈ wsX7_trace := by decide +kernel
theorem kX7_trace_c47 : Cond.constant RX7 47 (-1000000) ∈ wsX7_trace := by decide +kernel
theorem kX7_trace_f44 : Cond.fieldLink RX7 44 "BarkNamesModel" "trace" "[I" ∈ wsX7_trace := by decide +kernel
abbrev rmX7_trace : Room := { frames := 1, cells := 0, slots := 0, locals := 22 }
set_option maxHeartbeats 4000000 in
set_option maxRecDepth 100000 in
theorem sX7_trace (l : Launch) {G : GT} (hG : GI G) {v1 : Int} (h1 : Rg v1) {σ : Hp} (hs : RgS σ) {r0 : Int × Hp} (hf : fX7_trace σ v1 = some r0) : Cti l G yX7_trace wsX7_trace rmX7_trace [rf G 7 0, iv v1] σ r0.1 r0.2 := by
  unfold fX7_trace at hf
  refine Cti_start (lv := [(0, rf G 7 0), (1, iv v1)]) (ret := (some .int)) (by decide +kernel) rfl hG (Nat.le_of_ble_eq_true rfl) rfl (fun p e s m args below meth c hC hr hlk => ?_)
  refine V_iload_n (k := 1) (q := 1) hC 1 rfl dX7_trace_0 rfl ?_
  refine V_iconst (q := 2) hC dX7_trace_1 rfl ?_
  refine V_aload_n (k := 0) (q := 3) hC 0 rfl dX7_trace_2 rfl ?_
  refine V_getf (T := TX7) (k := 21) (q := 6) hC uX7_trace_7 rfl iD7 rfl (by decide) kX7_trace_f215 rfl dX7_trace_3 rfl ?_
  refine V_iconst (q := 7) hC dX7_trace_6 rfl ?_
  refine V_isub (q := 8) hC dX7_trace_7 rfl ?_
  refine V_csi (st := []) (q := 11) hC (sX7_in l hG h1 (Rg_c rfl) (Rg_wr _) hs) (va_cwS 3 hC.2.2.2.2.1 gX7_trace_X7_in rfl rfl rfl (by decide +kernel) ⟨Nat.le_of_ble_eq_true rfl, Nat.le_of_ble_eq_true rfl⟩) rfl rfl (Nat.le_of_ble_eq_true rfl) dX7_trace_8 rfl ⟨Nat.zero_le _, Nat.zero_le _⟩ (fun hr1 _ => ?_)
  refine V_if_eq (tgt := 23) (q := 14) hC hr1 dX7_trace_11 (by decide) rfl (fun c2 => ?_) (fun c2 => ?_)
  · replace hf := (if_pos c2).symm.trans hf
    refine V_ldc (q := 25) (n := (-1000000)) hC (by decide) kX7_trace_c47 dX7_trace_23 rfl ?_
    exact V_iret hC hr hlk (re_1 hf) (re_2 hf) (Rg_c rfl) hs dX7_trace_25
  · replace hf := (if_neg c2).symm.trans hf
    refine V_aload_n (k := 0) (q := 15) hC 0 rfl dX7_trace_14 rfl ?_
    refine V_getf (T := TX7) (k := 20) (q := 18) hC uX7_trace_7 rfl iD7 rfl (by decide) kX7_trace_f44 rfl dX7_trace_15 rfl ?_
    refine V_iload_n (k := 1) (q := 19) hC 1 rfl dX7_trace_18 rfl ?_
    obtain ⟨g3, hf⟩ := gd_some hf
    refine V_iald (n := 16) (q := 20) hC iD33 rfl g3 h1 dX7_trace_19 rfl ?_
    refine V_goto (tgt := 25) hC dX7_trace_20 (by decide) ?_
    exact V_iret hC hr hlk (re_1 hf) (re_2 hf) (hs _ _ _) hs dX7_trace_25
/-! X7_count -/
theorem kX7_count_f25 : Cond.fieldLink RX7 25 "BarkNamesModel" "now" "[I" ∈ wsX7_count := by decide +kernel
theorem uX7_count_7 : ∀ w ∈ u_ws RX7 TX7 22, w ∈ wsX7_count := by decide +kernel
theorem kX7_count_c47 : Cond.constant RX7 47 (-1000000) ∈ wsX7_count := by decide +kernel
theorem kX7_count_f139 : Cond.fieldLink RX7 139 "BarkNamesModel" "acts" "I" ∈ wsX7_count := by decide +kernel
theorem kX7_count_f79 : Cond.fieldLink RX7 79 "BarkNamesModel" "taped" "I" ∈ wsX7_count := by decide +kernel
theorem kX7_count_c61 : Cond.constant RX7 61 (-1000001) ∈ wsX7_count := by decide +kernel
abbrev rmX7_count : Room := { frames := 1, cells := 0, slots := 0, locals := 24 }
set_option maxHeartbeats 4000000 in
set_option maxRecDepth 100000 in
theorem tlX7_count_50 {p : Program} {l : Launch} {e : Env} {s : State} {m : MethodId} {args : Array Value} {below : List Frame} {meth : Method} {c : Code} {G : GT} (hG : GI G) (hC : CX p s m args c cX7_count 4 RX7 wsX7_count G (AA G)) (hr : meth.sig.returnType = (some .int)) (hlk : meth.locks = false) {r0 : Int × Hp} : ∀ n : Nat, (∀ {σ : Hp} (hs : RgS σ) {v2 : Int} {v3 : Int} (h2 : Rg v2) (h3 : Rg v3) (hf : lX7_count_50 n σ v2 v3 = some r0), VV p l e (headSpec wsX7_count rmX7_count).room s m args below meth c (MQ below (QI G r0.1 r0.2) args s 0 0 (AA G)) G (AA G) 0 0 4 σ 50 [(0, rf G 7 0), (2, iv v2), (3, iv v3)] []) := by
  intro n
  induction n with
  | zero =>
    exact by intro σ hs v2 v3 h2 h3 hf; exact absurd (show (none : Option (Int × Hp)) = some r0 from hf) (fun z => by cases z)
  | succ n ih =>
    intro σ hs v2 v3 h2 h3 hf
    replace hf := (lX7_count_50_e0 n σ v2 v3).symm.trans hf
    refine V_iload_n (k := 3) (q := 51) hC 2 rfl dX7_count_50 rfl ?_
    refine V_bipush (q := 53) hC (by decide) dX7_count_51 rfl ?_
    refine V_icmp_ge (tgt := 78) (q := 56) hC h3 (Rg_c rfl) dX7_count_53 (by decide) rfl (fun c19 => ?_) (fun c19 => ?_)
    · replace hf := (if_pos c19).symm.trans hf
      refine V_iload_n (k := 2) (q := 79) hC 1 rfl dX7_count_78 rfl ?_
      exact V_iret hC hr hlk (re_1 hf) (re_2 hf) h2 hs dX7_count_79
    · replace hf := (if_neg c19).symm.trans hf
      refine V_iload_n (k := 2) (q := 57) hC 1 rfl dX7_count_56 rfl ?_
      refine V_aload_n (k := 0) (q := 58) hC 0 rfl dX7_count_57 rfl ?_
      refine V_iload_n (k := 3) (q := 59) hC 2 rfl dX7_count_58 rfl ?_
      obtain ⟨r20, σ21, hc22, hf⟩ := cl_some hf
      refine V_cvi (st := [iv v2]) (q := 62) (x0 := r20) (σ0 := σ21) hC (sX7_isMissing l hG h3 hs hc22) (cwV 1 hC.2.2.2.2.1 gX7_count_X7_isMissing rfl rfl rfl (by decide +kernel) ⟨Nat.le_of_ble_eq_true rfl, Nat.le_of_ble_eq_true rfl⟩) ⟨_, rfl, rfl⟩ iD7 (fun _ => ⟨_, rfl⟩) rfl rfl (Nat.le_of_ble_eq_true rfl) dX7_count_59 rfl ⟨Nat.zero_le _, Nat.zero_le _⟩ (fun hr23 hs24 => ?_)
      refine V_if_eq (tgt := 69) (q := 65) hC hr23 dX7_count_62 (by decide) rfl (fun c25 => ?_) (fun c25 => ?_)
      · replace hf := (if_pos c25).symm.trans hf
        refine V_iconst (q := 70) hC dX7_count_69 rfl ?_
        refine V_iadd (q := 71) hC dX7_count_70 rfl ?_
        refine V_istore_n (k := 2) (i := 2) (lv' := [(0, rf G 7 0), (2, iv (wr (v2 + 1))), (3, iv v3)]) (q := 72) hC [1, 0, 2] rfl (by decide) rfl dX7_count_71 rfl ?_
        refine V_iinc (i := 3) (lv' := [(0, rf G 7 0), (2, iv (wr (v2 + 1))), (3, iv (wr (v3 + 1)))]) (q := 75) hC 2 rfl [1, 2, 0] (by decide) rfl dX7_count_72 rfl ?_
        refine V_goto (tgt := 50) hC dX7_count_75 (by decide) ?_
        refine V_lsub [0, 1, 2] rfl ?_
        exact ih hs24 (Rg_wr _) (Rg_wr _) hf
      · replace hf := (if_neg c25).symm.trans hf
        refine V_iconst (q := 66) hC dX7_count_65 rfl ?_
        refine V_goto (tgt := 70) hC dX7_count_66 (by decide) ?_
        refine V_iadd (q := 71) hC dX7_count_70 rfl ?_
        refine V_istore_n (k := 2) (i := 2) (lv' := [(0, rf G 7 0), (2, iv (wr (v2 + 0))), (3, iv v3)]) (q := 72) hC [1, 0, 2] rfl (by decide) rfl dX7_count_71 rfl ?_
        refine V_iinc (i := 3) (lv' := [(0, rf G 7 0), (2, iv (wr (v2 + 0))), (3, iv (wr (v3 + 1)))]) (q := 75) hC 2 rfl [1, 2, 0] (by decide) rfl dX7_count_72 rfl ?_
        refine V_goto (tgt := 50) hC dX7_count_75 (by decide) ?_
        refine V_lsub [0, 1, 2] rfl ?_
        exact ih hs24 (Rg_wr _) (Rg_wr _) hf
set_option maxHeartbeats 4000000 in
set_option maxRecDepth 100000 in
theorem sX7_count (l : Launch) {G : GT} (hG : GI G) {v1 : Int} (h1 : Rg v1) {σ : Hp} (hs : RgS σ) {r0 : Int × Hp} (hf : fX7_count σ v1 = some r0) : Cti l G yX7_count wsX7_count rmX7_count [rf G 7 0, iv v1] σ r0.1 r0.2 := by
  unfold fX7_count at hf
  refine Cti_start (lv := [(0, rf G 7 0), (1, iv v1)]) (ret := (some .int)) (by decide +kernel) rfl hG (Nat.le_of_ble_eq_true rfl) rfl (fun p e s m args below meth c hC hr hlk => ?_)
  refine V_iconst (q := 1) hC dX7_count_0 rfl ?_
  refine V_istore_n (k := 2) (i := 2) (lv' := [(0, rf G 7 0), (1, iv v1), (2, iv 0)]) (q := 2) hC [1, 2, 0] rfl (by decide) rfl dX7_count_1 rfl ?_
  refine V_iload_n (k := 1) (q := 3) hC 1 rfl dX7_count_2 rfl ?_
  by_cases c1 : v1 = 0
  · replace hf := (if_pos c1).symm.trans hf
    refine V_tabIn (tgt := 48) hC h1 dX7_count_3 (by omega) (by omega) (by rw [c1]; rfl) (by decide) ?_
    refine V_iconst (q := 49) hC dX7_count_48 rfl ?_
    refine V_istore_n (k := 3) (i := 3) (lv' := [(0, rf G 7 0), (1, iv v1), (2, iv 0), (3, iv 0)]) (q := 50) hC [1, 2, 3, 0] rfl (by decide) rfl dX7_count_49 rfl ?_
    refine V_lsub [0, 2, 3] rfl ?_
    exact (tlX7_count_50 hG hC hr hlk FU) hs (Rg_c rfl) (Rg_c rfl) hf
  · replace hf := (if_neg c1).symm.trans hf
    by_cases c2 : v1 = 1
    · replace hf := (if_pos c2).symm.trans hf
      refine V_tabIn (tgt := 80) hC h1 dX7_count_3 (by omega) (by omega) (by rw [c2]; rfl) (by decide) ?_
      refine V_aload_n (k := 0) (q := 81) hC 0 rfl dX7_count_80 rfl ?_
      refine V_getf (T := TX7) (k := 13) (q := 84) hC uX7_count_7 rfl iD7 rfl (by decide) kX7_count_f25 rfl dX7_count_81 rfl ?_
      refine V_iconst (q := 85) hC dX7_count_84 rfl ?_
      refine V_iald (n := 48) (q := 86) hC iD27 rfl ⟨by decide, by decide⟩ (Rg_c rfl) dX7_count_85 rfl ?_
      exact V_iret hC hr hlk (re_1 hf) (re_2 hf) (hs _ _ _) hs dX7_count_86
    · replace hf := (if_neg c2).symm.trans hf
      by_cases c3 : v1 = 2
      · replace hf := (if_pos c3).symm.trans hf
        refine V_tabIn (tgt := 87) hC h1 dX7_count_3 (by omega) (by omega) (by rw [c3]; rfl) (by decide) ?_
        refine V_aload_n (k := 0) (q := 88) hC 0 rfl dX7_count_87 rfl ?_
        refine V_getf (T := TX7) (k := 13) (q := 91) hC uX7_count_7 rfl iD7 rfl (by decide) kX7_count_f25 rfl dX7_count_88 rfl ?_
        refine V_iconst (q := 92) hC dX7_count_91 rfl ?_
        refine V_iald (n := 48) (q := 93) hC iD27 rfl ⟨by decide, by decide⟩ (Rg_c rfl) dX7_count_92 rfl ?_
        exact V_iret hC hr hlk (re_1 hf) (re_2 hf) (hs _ _ _) hs dX7_count_93
      · replace hf := (if_neg c3).symm.trans hf
        by_cases c4 : v1 = 3
        · replace hf := (if_pos c4).symm.trans hf
          refine V_tabIn (tgt := 94) hC h1 dX7_count_3 (by omega) (by omega) (by rw [c4]; rfl) (by decide) ?_
          refine V_aload_n (k := 0) (q := 95) hC 0 rfl dX7_count_94 rfl ?_
          refine V_getf (T := TX7) (k := 13) (q := 98) hC uX7_count_7 rfl iD7 rfl (by decide) kX7_count_f25 rfl dX7_count_95 rfl ?_
          refine V_ldc (q := 100) (n := (-1000000)) hC (by decide) kX7_count_c47 dX7_count_98 rfl ?_
          obtain ⟨r5, σ6, hc7, hf⟩ := cl_some hf
          refine V_csi (st := []) (q := 103) (x0 := r5) (σ0 := σ6) hC (sX7_legible l hG iD27 (Rg_c rfl) hs hc7) (va_cwS 2 hC.2.2.2.2.1 gX7_count_X7_legible rfl rfl rfl (by decide +kernel) ⟨Nat.le_of_ble_eq_true rfl, Nat.le_of_ble_eq_true rfl⟩) rfl rfl (Nat.le_of_ble_eq_true rfl) dX7_count_100 rfl ⟨Nat.zero_le _, Nat.zero_le _⟩ (fun hr8 hs9 => ?_)
          obtain ⟨r10, σ11, hc12, hf⟩ := cl_some hf
          refine V_csi (st := []) (q := 106) (x0 := r10) (σ0 := σ11) hC (sX7_ones l hG hr8 hs9 hc12) (va_cwS 1 hC.2.2.2.2.1 gX7_count_X7_ones rfl rfl rfl (by decide +kernel) ⟨Nat.le_of_ble_eq_true rfl, Nat.le_of_ble_eq_true rfl⟩) rfl rfl (Nat.le_of_ble_eq_true rfl) dX7_count_103 rfl ⟨Nat.zero_le _, Nat.zero_le _⟩ (fun hr13 hs14 => ?_)
          exact V_iret hC hr hlk (re_1 hf) (re_2 hf) hr13 hs14 dX7_count_106
        · replace hf := (if_neg c4).symm.trans hf
          by_cases c15 : v1 = 4
          · replace hf := (if_pos c15).symm.trans hf
            refine V_tabIn (tgt := 107) hC h1 dX7_count_3 (by omega) (by omega) (by rw [c15]; rfl) (by decide) ?_
            refine V_aload_n (k := 0) (q := 108) hC 0 rfl dX7_count_107 rfl ?_
            refine V_getf (T := TX7) (k := 13) (q := 111) hC uX7_count_7 rfl iD7 rfl (by decide) kX7_count_f25 rfl dX7_count_108 rfl ?_
            refine V_iconst (q := 112) hC dX7_count_111 rfl ?_
            refine V_iald (n := 48) (q := 113) hC iD27 rfl ⟨by decide, by decide⟩ (Rg_c rfl) dX7_count_112 rfl ?_
            exact V_iret hC hr hlk (re_1 hf) (re_2 hf) (hs _ _ _) hs dX7_count_113
          · replace hf := (if_neg c15).symm.trans hf
            by_cases c16 : v1 = 5
            · replace hf := (if_pos c16).symm.trans hf
              refine V_tabIn (tgt := 114) hC h1 dX7_count_3 (by omega) (by omega) (by rw [c16]; rfl) (by decide) ?_
              refine V_aload_n (k := 0) (q := 115) hC 0 rfl dX7_count_114 rfl ?_
              refine V_getf (T := TX7) (k := 13) (q := 118) hC uX7_count_7 rfl iD7 rfl (by decide) kX7_count_f25 rfl dX7_count_115 rfl ?_
              refine V_iconst (q := 119) hC dX7_count_118 rfl ?_
              refine V_iald (n := 48) (q := 120) hC iD27 rfl ⟨by decide, by decide⟩ (Rg_c rfl) dX7_count_119 rfl ?_
              exact V_iret hC hr hlk (re_1 hf) (re_2 hf) (hs _ _ _) hs dX7_count_120
            · replace hf := (if_neg c16).symm.trans hf
              by_cases c17 : v1 = 6
              · replace hf := (if_pos c17).symm.trans hf
                refine V_tabIn (tgt := 121) hC h1 dX7_count_3 (by omega) (by omega) (by rw [c17]; rfl) (by decide) ?_
                refine V_aload_n (k := 0) (q := 122) hC 0 rfl dX7_count_121 rfl ?_
                refine V_getf (T := TX7) (k := 16) (q := 125) hC uX7_count_7 rfl iD7 rfl (by decide) kX7_count_f139 rfl dX7_count_122 rfl ?_
                exact V_iret hC hr hlk (re_1 hf) (re_2 hf) (hs _ _ _) hs dX7_count_125
              · replace hf := (if_neg c17).symm.trans hf
                by_cases c18 : v1 = 7
                · replace hf := (if_pos c18).symm.trans hf
                  refine V_tabIn (tgt := 126) hC h1 dX7_count_3 (by omega) (by omega) (by rw [c18]; rfl) (by decide) ?_
                  refine V_aload_n (k := 0) (q := 127) hC 0 rfl dX7_count_126 rfl ?_
                  refine V_getf (T := TX7) (k := 6) (q := 130) hC uX7_count_7 rfl iD7 rfl (by decide) kX7_count_f79 rfl dX7_count_127 rfl ?_
                  exact V_iret hC hr hlk (re_1 hf) (re_2 hf) (hs _ _ _) hs dX7_count_130
                · replace hf := (if_neg c18).symm.trans hf
                  refine V_tabOut (tgt := 131) hC h1 dX7_count_3 (by omega) (by decide) ?_
                  refine V_ldc (q := 133) (n := (-1000001)) hC (by decide) kX7_count_c61 dX7_count_131 rfl ?_
                  exact V_iret hC hr hlk (re_1 hf) (re_2 hf) (Rg_c rfl) hs dX7_count_133
/-! X7_status -/
theorem kX7_status_f48 : Cond.fieldLink RX7 48 "BarkNamesModel" "status" "I" ∈ wsX7_status := by decide +kernel
theorem uX7_status_7 : ∀ w ∈ u_ws RX7 TX7 22, w ∈ wsX7_status := by decide +kernel
abbrev rmX7_status : Room := { frames := 0, cells := 0, slots := 0, locals := 0 }
set_option maxHeartbeats 4000000 in
set_option maxRecDepth 100000 in
theorem sX7_status (l : Launch) {G : GT} (hG : GI G) {σ : Hp} (hs : RgS σ) : Cti l G yX7_status wsX7_status rmX7_status [rf G 7 0] σ (fX7_status σ) σ := by
  obtain ⟨x0, hf⟩ : ∃ x, fX7_status σ = x := ⟨_, rfl⟩
  rw [hf]
  unfold fX7_status at hf
  refine Cti_start (lv := [(0, rf G 7 0)]) (ret := (some .int)) (by decide +kernel) rfl hG (Nat.le_of_ble_eq_true rfl) rfl (fun p e s m args below meth c hC hr hlk => ?_)
  refine V_aload_n (k := 0) (q := 1) hC 0 rfl dX7_status_0 rfl ?_
  refine V_getf (T := TX7) (k := 4) (q := 4) hC uX7_status_7 rfl iD7 rfl (by decide) kX7_status_f48 rfl dX7_status_1 rfl ?_
  exact V_iret hC hr hlk hf rfl (hs _ _ _) hs dX7_status_4
