/-! X7_readsTree -/
theorem kX7_readsTree_f92 : Cond.fieldLink RX7 92 "BarkNamesModel" "value" "I" ∈ wsX7_readsTree := by decide +kernel
theorem uX7_readsTree_7 : ∀ w ∈ u_ws RX7 TX7 22, w ∈ wsX7_readsTree := by decide +kernel
theorem kX7_readsTree_f28 : Cond.fieldLink RX7 28 "BarkNamesModel" "draft" "[I" ∈ wsX7_readsTree := by decide +kernel
theorem kX7_readsTree_f95 : Cond.fieldLink RX7 95 "BarkNamesModel" "token" "I" ∈ wsX7_readsTree := by decide +kernel
abbrev rmX7_readsTree : Room := { frames := 5, cells := 0, slots := 0, locals := 110 }
set_option maxHeartbeats 4000000 in
set_option maxRecDepth 100000 in
theorem tjX7_readsTree_86 {p : Program} {l : Launch} {e : Env} {s : State} {m : MethodId} {args : Array Value} {below : List Frame} {meth : Method} {c : Code} {G : GT} (hG : GI G) (hC : CX p s m args c cX7_readsTree 5 RX7 wsX7_readsTree G (AA G)) (hr : meth.sig.returnType = none) (hlk : meth.locks = false) {r0 : Int × Hp} {σ : Hp} (hs : RgS σ) {v1 : Int} {v2 : Int} {v3 : Int} {v4 : Int} {w0 : Int} (h1 : Rg v1) (h2 : Rg v2) (h3 : Rg v3) (h4 : Rg v4) (hw0 : Rg w0) (hf : jX7_readsTree_86 σ v1 v2 v3 v4 w0 = some r0) : VV p l e (headSpec wsX7_readsTree rmX7_readsTree).room s m args below meth c (MQ below (QV G r0.2) args s 0 0 (AA G)) G (AA G) 0 0 5 σ 86 [(0, rf G 7 0), (1, iv v1), (2, iv v2), (3, iv v3), (4, iv v4)] [iv w0, rf G 7 0] := by
  unfold jX7_readsTree_86 at hf
  refine V_iconst (q := 87) hC dX7_readsTree_86 rfl ?_
  obtain ⟨r20, σ21, hc22, hf⟩ := cl_some hf
  refine V_cvi (st := []) (q := 90) (x0 := r20) (σ0 := σ21) hC (sX7_takes l hG hw0 (Rg_c rfl) hs hc22) (cwV 2 hC.2.2.2.2.1 gX7_readsTree_X7_takes rfl rfl rfl (by decide +kernel) ⟨Nat.le_of_ble_eq_true rfl, Nat.le_of_ble_eq_true rfl⟩) ⟨_, rfl, rfl⟩ iD7 (fun _ => ⟨_, rfl⟩) rfl rfl (Nat.le_of_ble_eq_true rfl) dX7_readsTree_87 rfl ⟨Nat.zero_le _, Nat.zero_le _⟩ (fun hr23 hs24 => ?_)
  refine V_pop (q := 91) hC rfl dX7_readsTree_90 rfl ?_
  refine V_aload_n (k := 0) (q := 92) hC 0 rfl dX7_readsTree_91 rfl ?_
  refine V_cvi (st := []) (q := 95) hC (sX7_isWell l hG  hs24) (cwV 0 hC.2.2.2.2.1 gX7_readsTree_X7_isWell rfl rfl rfl (by decide +kernel) ⟨Nat.le_of_ble_eq_true rfl, Nat.le_of_ble_eq_true rfl⟩) ⟨_, rfl, rfl⟩ iD7 (fun _ => ⟨_, rfl⟩) rfl rfl (Nat.le_of_ble_eq_true rfl) dX7_readsTree_92 rfl ⟨Nat.zero_le _, Nat.zero_le _⟩ (fun hr25 _ => ?_)
  refine V_if_eq (tgt := 134) (q := 98) hC hr25 dX7_readsTree_95 (by decide) rfl (fun c26 => ?_) (fun c26 => ?_)
  · replace hf := (if_pos c26).symm.trans hf
    exact V_vret hC hr hlk (re_2 hf) hs24 dX7_readsTree_134
  · replace hf := (if_neg c26).symm.trans hf
    refine V_aload_n (k := 0) (q := 99) hC 0 rfl dX7_readsTree_98 rfl ?_
    refine V_getf (T := TX7) (k := 14) (q := 102) hC uX7_readsTree_7 rfl iD7 rfl (by decide) kX7_readsTree_f28 rfl dX7_readsTree_99 rfl ?_
    refine V_iload_n (k := 2) (q := 103) hC 2 rfl dX7_readsTree_102 rfl ?_
    refine V_iload_n (k := 1) (q := 104) hC 1 rfl dX7_readsTree_103 rfl ?_
    obtain ⟨g27, hf⟩ := gd_some hf
    obtain ⟨σ28, e29, hf⟩ := sq_ex hf
    have hs30 : RgS σ28 := by rw [e29]; exact RgS_hup hs24 h1
    refine V_iast (n := 48) (q := 105) hC iD28 rfl g27 h2 e29 dX7_readsTree_104 rfl ?_
    refine V_aload_n (k := 0) (q := 106) hC 0 rfl dX7_readsTree_105 rfl ?_
    refine V_getf (T := TX7) (k := 14) (q := 109) hC uX7_readsTree_7 rfl iD7 rfl (by decide) kX7_readsTree_f28 rfl dX7_readsTree_106 rfl ?_
    refine V_iload_n (k := 2) (q := 110) hC 2 rfl dX7_readsTree_109 rfl ?_
    refine V_iconst (q := 111) hC dX7_readsTree_110 rfl ?_
    refine V_iadd (q := 112) hC dX7_readsTree_111 rfl ?_
    refine V_iload_n (k := 3) (q := 113) hC 3 rfl dX7_readsTree_112 rfl ?_
    obtain ⟨g31, hf⟩ := gd_some hf
    obtain ⟨σ32, e33, hf⟩ := sq_ex hf
    have hs34 : RgS σ32 := by rw [e33]; exact RgS_hup hs30 h3
    refine V_iast (n := 48) (q := 114) hC iD28 rfl g31 (Rg_wr _) e33 dX7_readsTree_113 rfl ?_
    refine V_aload_n (k := 0) (q := 115) hC 0 rfl dX7_readsTree_114 rfl ?_
    refine V_getf (T := TX7) (k := 14) (q := 118) hC uX7_readsTree_7 rfl iD7 rfl (by decide) kX7_readsTree_f28 rfl dX7_readsTree_115 rfl ?_
    refine V_iload_n (k := 2) (q := 119) hC 2 rfl dX7_readsTree_118 rfl ?_
    refine V_iconst (q := 120) hC dX7_readsTree_119 rfl ?_
    refine V_iadd (q := 121) hC dX7_readsTree_120 rfl ?_
    refine V_iload (k := 4) (q := 123) hC 4 rfl dX7_readsTree_121 rfl ?_
    obtain ⟨g35, hf⟩ := gd_some hf
    obtain ⟨σ36, e37, hf⟩ := sq_ex hf
    have hs38 : RgS σ36 := by rw [e37]; exact RgS_hup hs34 h4
    refine V_iast (n := 48) (q := 124) hC iD28 rfl g35 (Rg_wr _) e37 dX7_readsTree_123 rfl ?_
    refine V_aload_n (k := 0) (q := 125) hC 0 rfl dX7_readsTree_124 rfl ?_
    refine V_getf (T := TX7) (k := 14) (q := 128) hC uX7_readsTree_7 rfl iD7 rfl (by decide) kX7_readsTree_f28 rfl dX7_readsTree_125 rfl ?_
    refine V_iconst (q := 129) hC dX7_readsTree_128 rfl ?_
    refine V_dup2 (q := 130) hC rfl rfl dX7_readsTree_129 rfl ?_
    refine V_iald (n := 48) (q := 131) hC iD28 rfl ⟨by decide, by decide⟩ (Rg_c rfl) dX7_readsTree_130 rfl ?_
    refine V_iconst (q := 132) hC dX7_readsTree_131 rfl ?_
    refine V_iadd (q := 133) hC dX7_readsTree_132 rfl ?_
    obtain ⟨σ39, e40, hf⟩ := sq_ex hf
    have hs41 : RgS σ39 := by rw [e40]; exact RgS_hup hs38 (Rg_wr _)
    refine V_iast (n := 48) (q := 134) hC iD28 rfl ⟨by decide, by decide⟩ (Rg_c rfl) e40 dX7_readsTree_133 rfl ?_
    exact V_vret hC hr hlk (re_2 hf) hs41 dX7_readsTree_134
set_option maxHeartbeats 4000000 in
set_option maxRecDepth 100000 in
theorem tjX7_readsTree_51 {p : Program} {l : Launch} {e : Env} {s : State} {m : MethodId} {args : Array Value} {below : List Frame} {meth : Method} {c : Code} {G : GT} (hG : GI G) (hC : CX p s m args c cX7_readsTree 5 RX7 wsX7_readsTree G (AA G)) (hr : meth.sig.returnType = none) (hlk : meth.locks = false) {r0 : Int × Hp} {σ : Hp} (hs : RgS σ) {v1 : Int} {w0 : Int} {w1 : Int} {w2 : Int} (h1 : Rg v1) (hw0 : Rg w0) (hw1 : Rg w1) (hw2 : Rg w2) (hf : jX7_readsTree_51 σ v1 w0 w1 w2 = some r0) : VV p l e (headSpec wsX7_readsTree rmX7_readsTree).room s m args below meth c (MQ below (QV G r0.2) args s 0 0 (AA G)) G (AA G) 0 0 5 σ 51 [(0, rf G 7 0), (1, iv v1)] [iv w0, iv w1, iv w2] := by
  unfold jX7_readsTree_51 at hf
  refine V_imul (q := 52) hC dX7_readsTree_51 rfl ?_
  refine V_iadd (q := 53) hC dX7_readsTree_52 rfl ?_
  refine V_istore_n (k := 2) (i := 2) (lv' := [(0, rf G 7 0), (1, iv v1), (2, iv (wr (w2 + (wr (w1 * w0)))))]) (q := 54) hC [1, 2, 0] rfl (by decide) rfl dX7_readsTree_53 rfl ?_
  refine V_aload_n (k := 0) (q := 55) hC 0 rfl dX7_readsTree_54 rfl ?_
  refine V_bipush (q := 57) hC (by decide) dX7_readsTree_55 rfl ?_
  refine V_bipush (q := 59) hC (by decide) dX7_readsTree_57 rfl ?_
  obtain ⟨r9, σ10, hc11, hf⟩ := cl_some hf
  refine V_cvi (st := []) (q := 62) (x0 := r9) (σ0 := σ10) hC (sX7_figure l hG (Rg_c rfl) (Rg_c rfl) hs hc11) (cwV 2 hC.2.2.2.2.1 gX7_readsTree_X7_figure rfl rfl rfl (by decide +kernel) ⟨Nat.le_of_ble_eq_true rfl, Nat.le_of_ble_eq_true rfl⟩) ⟨_, rfl, rfl⟩ iD7 (fun _ => ⟨_, rfl⟩) rfl rfl (Nat.le_of_ble_eq_true rfl) dX7_readsTree_59 rfl ⟨Nat.zero_le _, Nat.zero_le _⟩ (fun hr12 hs13 => ?_)
  refine V_istore_n (k := 3) (i := 3) (lv' := [(0, rf G 7 0), (1, iv v1), (2, iv (wr (w2 + (wr (w1 * w0))))), (3, iv r9)]) (q := 63) hC [1, 2, 3, 0] rfl (by decide) rfl dX7_readsTree_62 rfl ?_
  refine V_aload_n (k := 0) (q := 64) hC 0 rfl dX7_readsTree_63 rfl ?_
  refine V_iconst (q := 65) hC dX7_readsTree_64 rfl ?_
  refine V_bipush (q := 67) hC (by decide) dX7_readsTree_65 rfl ?_
  obtain ⟨r14, σ15, hc16, hf⟩ := cl_some hf
  refine V_cvi (st := []) (q := 70) (x0 := r14) (σ0 := σ15) hC (sX7_next l hG (Rg_c rfl) (Rg_c rfl) hs13 hc16) (cwV 2 hC.2.2.2.2.1 gX7_readsTree_X7_next rfl rfl rfl (by decide +kernel) ⟨Nat.le_of_ble_eq_true rfl, Nat.le_of_ble_eq_true rfl⟩) ⟨_, rfl, rfl⟩ iD7 (fun _ => ⟨_, rfl⟩) rfl rfl (Nat.le_of_ble_eq_true rfl) dX7_readsTree_67 rfl ⟨Nat.zero_le _, Nat.zero_le _⟩ (fun hr17 hs18 => ?_)
  refine V_istore (i := 4) (lv' := [(0, rf G 7 0), (1, iv v1), (2, iv (wr (w2 + (wr (w1 * w0))))), (3, iv r9), (4, iv r14)]) (q := 72) hC [1, 2, 3, 4, 0] (by decide) rfl dX7_readsTree_70 rfl ?_
  refine V_aload_n (k := 0) (q := 73) hC 0 rfl dX7_readsTree_72 rfl ?_
  refine V_aload_n (k := 0) (q := 74) hC 0 rfl dX7_readsTree_73 rfl ?_
  refine V_getf (T := TX7) (k := 11) (q := 77) hC uX7_readsTree_7 rfl iD7 rfl (by decide) kX7_readsTree_f95 rfl dX7_readsTree_74 rfl ?_
  refine V_iconst (q := 78) hC dX7_readsTree_77 rfl ?_
  refine V_icmp_ne (tgt := 85) (q := 81) hC (hs18 _ _ _) (Rg_c rfl) dX7_readsTree_78 (by decide) rfl (fun c19 => ?_) (fun c19 => ?_)
  · replace hf := (if_neg c19).symm.trans hf
    refine V_iconst (q := 86) hC dX7_readsTree_85 rfl ?_
    refine V_lsub [0, 1, 2, 3, 4] rfl ?_
    exact tjX7_readsTree_86 hG hC hr hlk hs18 h1 (Rg_wr _) hr12 hr17 (Rg_c rfl) hf
  · replace hf := (if_pos c19).symm.trans hf
    refine V_iconst (q := 82) hC dX7_readsTree_81 rfl ?_
    refine V_goto (tgt := 86) hC dX7_readsTree_82 (by decide) ?_
    refine V_lsub [0, 1, 2, 3, 4] rfl ?_
    exact tjX7_readsTree_86 hG hC hr hlk hs18 h1 (Rg_wr _) hr12 hr17 (Rg_c rfl) hf
set_option maxHeartbeats 4000000 in
set_option maxRecDepth 100000 in
theorem tjX7_readsTree_24 {p : Program} {l : Launch} {e : Env} {s : State} {m : MethodId} {args : Array Value} {below : List Frame} {meth : Method} {c : Code} {G : GT} (hG : GI G) (hC : CX p s m args c cX7_readsTree 5 RX7 wsX7_readsTree G (AA G)) (hr : meth.sig.returnType = none) (hlk : meth.locks = false) {r0 : Int × Hp} {σ : Hp} (hs : RgS σ) {v1 : Int} {w0 : Int} (h1 : Rg v1) (hw0 : Rg w0) (hf : jX7_readsTree_24 σ v1 w0 = some r0) : VV p l e (headSpec wsX7_readsTree rmX7_readsTree).room s m args below meth c (MQ below (QV G r0.2) args s 0 0 (AA G)) G (AA G) 0 0 5 σ 24 [(0, rf G 7 0), (1, iv v1)] [iv w0, rf G 7 0] := by
  unfold jX7_readsTree_24 at hf
  refine V_iconst (q := 25) hC dX7_readsTree_24 rfl ?_
  obtain ⟨r3, σ4, hc5, hf⟩ := cl_some hf
  refine V_cvi (st := []) (q := 28) (x0 := r3) (σ0 := σ4) hC (sX7_takes l hG hw0 (Rg_c rfl) hs hc5) (cwV 2 hC.2.2.2.2.1 gX7_readsTree_X7_takes rfl rfl rfl (by decide +kernel) ⟨Nat.le_of_ble_eq_true rfl, Nat.le_of_ble_eq_true rfl⟩) ⟨_, rfl, rfl⟩ iD7 (fun _ => ⟨_, rfl⟩) rfl rfl (Nat.le_of_ble_eq_true rfl) dX7_readsTree_25 rfl ⟨Nat.zero_le _, Nat.zero_le _⟩ (fun hr6 hs7 => ?_)
  refine V_pop (q := 29) hC rfl dX7_readsTree_28 rfl ?_
  refine V_iconst (q := 30) hC dX7_readsTree_29 rfl ?_
  refine V_iconst (q := 31) hC dX7_readsTree_30 rfl ?_
  refine V_aload_n (k := 0) (q := 32) hC 0 rfl dX7_readsTree_31 rfl ?_
  refine V_getf (T := TX7) (k := 14) (q := 35) hC uX7_readsTree_7 rfl iD7 rfl (by decide) kX7_readsTree_f28 rfl dX7_readsTree_32 rfl ?_
  refine V_iconst (q := 36) hC dX7_readsTree_35 rfl ?_
  refine V_iald (n := 48) (q := 37) hC iD28 rfl ⟨by decide, by decide⟩ (Rg_c rfl) dX7_readsTree_36 rfl ?_
  refine V_iconst (q := 38) hC dX7_readsTree_37 rfl ?_
  refine V_icmp_ge (tgt := 50) (q := 41) hC (hs7 _ _ _) (Rg_c rfl) dX7_readsTree_38 (by decide) rfl (fun c8 => ?_) (fun c8 => ?_)
  · replace hf := (if_pos c8).symm.trans hf
    refine V_iconst (q := 51) hC dX7_readsTree_50 rfl ?_
    refine V_lsub [0, 1] rfl ?_
    exact tjX7_readsTree_51 hG hC hr hlk hs7 h1 (Rg_c rfl) (Rg_c rfl) (Rg_c rfl) hf
  · replace hf := (if_neg c8).symm.trans hf
    refine V_aload_n (k := 0) (q := 42) hC 0 rfl dX7_readsTree_41 rfl ?_
    refine V_getf (T := TX7) (k := 14) (q := 45) hC uX7_readsTree_7 rfl iD7 rfl (by decide) kX7_readsTree_f28 rfl dX7_readsTree_42 rfl ?_
    refine V_iconst (q := 46) hC dX7_readsTree_45 rfl ?_
    refine V_iald (n := 48) (q := 47) hC iD28 rfl ⟨by decide, by decide⟩ (Rg_c rfl) dX7_readsTree_46 rfl ?_
    refine V_goto (tgt := 51) hC dX7_readsTree_47 (by decide) ?_
    refine V_lsub [0, 1] rfl ?_
    exact tjX7_readsTree_51 hG hC hr hlk hs7 h1 (hs7 _ _ _) (Rg_c rfl) (Rg_c rfl) hf
set_option maxHeartbeats 4000000 in
set_option maxRecDepth 100000 in
theorem sX7_readsTree (l : Launch) {G : GT} (hG : GI G) {σ : Hp} (hs : RgS σ) {r0 : Int × Hp} (hf : fX7_readsTree σ = some r0) : Ctv l G yX7_readsTree wsX7_readsTree rmX7_readsTree [rf G 7 0] σ r0.2 := by
  unfold fX7_readsTree at hf
  refine Ctv_start (lv := [(0, rf G 7 0)]) (ret := none) (by decide +kernel) rfl hG (Nat.le_of_ble_eq_true rfl) rfl (fun p e s m args below meth c hC hr hlk => ?_)
  refine V_aload_n (k := 0) (q := 1) hC 0 rfl dX7_readsTree_0 rfl ?_
  refine V_getf (T := TX7) (k := 12) (q := 4) hC uX7_readsTree_7 rfl iD7 rfl (by decide) kX7_readsTree_f92 rfl dX7_readsTree_1 rfl ?_
  refine V_csi (st := []) (q := 7) hC (sX7_kindOf l hG (hs _ _ _) hs) (va_cwS 1 hC.2.2.2.2.1 gX7_readsTree_X7_kindOf rfl rfl rfl (by decide +kernel) ⟨Nat.le_of_ble_eq_true rfl, Nat.le_of_ble_eq_true rfl⟩) rfl rfl (Nat.le_of_ble_eq_true rfl) dX7_readsTree_4 rfl ⟨Nat.zero_le _, Nat.zero_le _⟩ (fun hr1 _ => ?_)
  refine V_istore_n (k := 1) (i := 1) (lv' := [(0, rf G 7 0), (1, iv (fX7_kindOf (σ 7 0 12)))]) (q := 8) hC [1, 0] rfl (by decide) rfl dX7_readsTree_7 rfl ?_
  refine V_aload_n (k := 0) (q := 9) hC 0 rfl dX7_readsTree_8 rfl ?_
  refine V_aload_n (k := 0) (q := 10) hC 0 rfl dX7_readsTree_9 rfl ?_
  refine V_getf (T := TX7) (k := 14) (q := 13) hC uX7_readsTree_7 rfl iD7 rfl (by decide) kX7_readsTree_f28 rfl dX7_readsTree_10 rfl ?_
  refine V_iconst (q := 14) hC dX7_readsTree_13 rfl ?_
  refine V_iald (n := 48) (q := 15) hC iD28 rfl ⟨by decide, by decide⟩ (Rg_c rfl) dX7_readsTree_14 rfl ?_
  refine V_iconst (q := 16) hC dX7_readsTree_15 rfl ?_
  refine V_icmp_ge (tgt := 23) (q := 19) hC (hs _ _ _) (Rg_c rfl) dX7_readsTree_16 (by decide) rfl (fun c2 => ?_) (fun c2 => ?_)
  · replace hf := (if_pos c2).symm.trans hf
    refine V_iconst (q := 24) hC dX7_readsTree_23 rfl ?_
    refine V_lsub [0, 1] rfl ?_
    exact tjX7_readsTree_24 hG hC hr hlk hs hr1 (Rg_c rfl) hf
  · replace hf := (if_neg c2).symm.trans hf
    refine V_iconst (q := 20) hC dX7_readsTree_19 rfl ?_
    refine V_goto (tgt := 24) hC dX7_readsTree_20 (by decide) ?_
    refine V_lsub [0, 1] rfl ?_
    exact tjX7_readsTree_24 hG hC hr hlk hs hr1 (Rg_c rfl) hf
/-! X7_isCutAt -/
abbrev rmX7_isCutAt : Room := { frames := 0, cells := 0, slots := 0, locals := 0 }
set_option maxHeartbeats 4000000 in
set_option maxRecDepth 100000 in
theorem tlX7_isCutAt_5 {p : Program} {l : Launch} {e : Env} {s : State} {m : MethodId} {args : Array Value} {below : List Frame} {meth : Method} {c : Code} {G : GT} (hG : GI G) (hC : CX p s m args c cX7_isCutAt 5 RX7 wsX7_isCutAt G (AA G)) (hr : meth.sig.returnType = (some .boolean)) (hlk : meth.locks = false) {s0 : Nat} {j0 : Nat} (hi0 : InD s0 j0) {r0 : Int × Hp} : ∀ n : Nat, (∀ {σ : Hp} (hs : RgS σ) {v1 : Int} {v2 : Int} {v3 : Int} {v4 : Int} (h1 : Rg v1) (h2 : Rg v2) (h3 : Rg v3) (h4 : Rg v4) (hf : lX7_isCutAt_5 n σ s0 j0 v1 v2 v3 v4 = some r0), VV p l e (headSpec wsX7_isCutAt rmX7_isCutAt).room s m args below meth c (MQ below (QI G r0.1 r0.2) args s 0 0 (AA G)) G (AA G) 0 0 5 σ 5 [(0, rf G s0 j0), (1, iv v1), (2, iv v2), (3, iv v3), (4, iv v4)] []) := by
  intro n
  induction n with
  | zero =>
    exact by intro σ hs v1 v2 v3 v4 h1 h2 h3 h4 hf; exact absurd (show (none : Option (Int × Hp)) = some r0 from hf) (fun z => by cases z)
  | succ n ih =>
    intro σ hs v1 v2 v3 v4 h1 h2 h3 h4 hf
    replace hf := (lX7_isCutAt_5_e0 n σ s0 j0 v1 v2 v3 v4).symm.trans hf
    refine V_iload (k := 4) (q := 7) hC 4 rfl dX7_isCutAt_5 rfl ?_
    refine V_aload_n (k := 0) (q := 8) hC 0 rfl dX7_isCutAt_7 rfl ?_
    refine V_iconst (q := 9) hC dX7_isCutAt_8 rfl ?_
    obtain ⟨g1, hf⟩ := gd_some hf
    refine V_iald (q := 10) hC hi0 rfl g1 (Rg_c rfl) dX7_isCutAt_9 rfl ?_
    refine V_icmp_ge (tgt := 57) (q := 13) hC h4 (hs _ _ _) dX7_isCutAt_10 (by decide) rfl (fun c2 => ?_) (fun c2 => ?_)
    · replace hf := (if_pos c2).symm.trans hf
      refine V_iload_n (k := 3) (q := 58) hC 3 rfl dX7_isCutAt_57 rfl ?_
      obtain ⟨g3, hf⟩ := gd_some hf
      exact V_zret hC hr hlk g3 (re_1 hf) (re_2 hf) hs dX7_isCutAt_58
    · replace hf := (if_neg c2).symm.trans hf
      refine V_iload_n (k := 3) (q := 14) hC 3 rfl dX7_isCutAt_13 rfl ?_
      refine V_if_ne (tgt := 45) (q := 17) hC h3 dX7_isCutAt_14 (by decide) rfl (fun c4 => ?_) (fun c4 => ?_)
      · replace hf := (if_neg c4).symm.trans hf
        refine V_iconst (q := 46) hC dX7_isCutAt_45 rfl ?_
        refine V_goto (tgt := 50) hC dX7_isCutAt_46 (by decide) ?_
        refine V_istore_n (k := 3) (i := 3) (lv' := [(0, rf G s0 j0), (1, iv v1), (2, iv v2), (3, iv 1), (4, iv v4)]) (q := 51) hC [1, 2, 3, 0, 4] rfl (by decide) rfl dX7_isCutAt_50 rfl ?_
        refine V_iinc (i := 4) (lv' := [(0, rf G s0 j0), (1, iv v1), (2, iv v2), (3, iv 1), (4, iv (wr (v4 + 1)))]) (q := 54) hC 4 rfl [1, 2, 3, 4, 0] (by decide) rfl dX7_isCutAt_51 rfl ?_
        refine V_goto (tgt := 5) hC dX7_isCutAt_54 (by decide) ?_
        refine V_lsub [0, 1, 2, 3, 4] rfl ?_
        exact ih hs h1 h2 (Rg_c rfl) (Rg_wr _) hf
      · replace hf := (if_pos c4).symm.trans hf
        refine V_aload_n (k := 0) (q := 18) hC 0 rfl dX7_isCutAt_17 rfl ?_
        refine V_bipush (q := 20) hC (by decide) dX7_isCutAt_18 rfl ?_
        refine V_iconst (q := 21) hC dX7_isCutAt_20 rfl ?_
        refine V_iload (k := 4) (q := 23) hC 4 rfl dX7_isCutAt_21 rfl ?_
        refine V_imul (q := 24) hC dX7_isCutAt_23 rfl ?_
        refine V_iadd (q := 25) hC dX7_isCutAt_24 rfl ?_
        obtain ⟨g5, hf⟩ := gd_some hf
        refine V_iald (q := 26) hC hi0 rfl g5 (Rg_wr _) dX7_isCutAt_25 rfl ?_
        refine V_iload_n (k := 1) (q := 27) hC 1 rfl dX7_isCutAt_26 rfl ?_
        refine V_icmp_ne (tgt := 49) (q := 30) hC (hs _ _ _) h1 dX7_isCutAt_27 (by decide) rfl (fun c6 => ?_) (fun c6 => ?_)
        · replace hf := (if_neg c6).symm.trans hf
          refine V_iconst (q := 50) hC dX7_isCutAt_49 rfl ?_
          refine V_istore_n (k := 3) (i := 3) (lv' := [(0, rf G s0 j0), (1, iv v1), (2, iv v2), (3, iv 0), (4, iv v4)]) (q := 51) hC [1, 2, 3, 0, 4] rfl (by decide) rfl dX7_isCutAt_50 rfl ?_
          refine V_iinc (i := 4) (lv' := [(0, rf G s0 j0), (1, iv v1), (2, iv v2), (3, iv 0), (4, iv (wr (v4 + 1)))]) (q := 54) hC 4 rfl [1, 2, 3, 4, 0] (by decide) rfl dX7_isCutAt_51 rfl ?_
          refine V_goto (tgt := 5) hC dX7_isCutAt_54 (by decide) ?_
          refine V_lsub [0, 1, 2, 3, 4] rfl ?_
          exact ih hs h1 h2 (Rg_c rfl) (Rg_wr _) hf
        · replace hf := (if_pos c6).symm.trans hf
          refine V_aload_n (k := 0) (q := 31) hC 0 rfl dX7_isCutAt_30 rfl ?_
          refine V_bipush (q := 33) hC (by decide) dX7_isCutAt_31 rfl ?_
          refine V_iconst (q := 34) hC dX7_isCutAt_33 rfl ?_
          refine V_iload (k := 4) (q := 36) hC 4 rfl dX7_isCutAt_34 rfl ?_
          refine V_imul (q := 37) hC dX7_isCutAt_36 rfl ?_
          refine V_iadd (q := 38) hC dX7_isCutAt_37 rfl ?_
          refine V_iconst (q := 39) hC dX7_isCutAt_38 rfl ?_
          refine V_iadd (q := 40) hC dX7_isCutAt_39 rfl ?_
          obtain ⟨g7, hf⟩ := gd_some hf
          refine V_iald (q := 41) hC hi0 rfl g7 (Rg_wr _) dX7_isCutAt_40 rfl ?_
          refine V_iload_n (k := 2) (q := 42) hC 2 rfl dX7_isCutAt_41 rfl ?_
          refine V_icmp_ne (tgt := 49) (q := 45) hC (hs _ _ _) h2 dX7_isCutAt_42 (by decide) rfl (fun c8 => ?_) (fun c8 => ?_)
          · replace hf := (if_neg c8).symm.trans hf
            refine V_iconst (q := 50) hC dX7_isCutAt_49 rfl ?_
            refine V_istore_n (k := 3) (i := 3) (lv' := [(0, rf G s0 j0), (1, iv v1), (2, iv v2), (3, iv 0), (4, iv v4)]) (q := 51) hC [1, 2, 3, 0, 4] rfl (by decide) rfl dX7_isCutAt_50 rfl ?_
            refine V_iinc (i := 4) (lv' := [(0, rf G s0 j0), (1, iv v1), (2, iv v2), (3, iv 0), (4, iv (wr (v4 + 1)))]) (q := 54) hC 4 rfl [1, 2, 3, 4, 0] (by decide) rfl dX7_isCutAt_51 rfl ?_
            refine V_goto (tgt := 5) hC dX7_isCutAt_54 (by decide) ?_
            refine V_lsub [0, 1, 2, 3, 4] rfl ?_
            exact ih hs h1 h2 (Rg_c rfl) (Rg_wr _) hf
          · replace hf := (if_pos c8).symm.trans hf
            refine V_iconst (q := 46) hC dX7_isCutAt_45 rfl ?_
            refine V_goto (tgt := 50) hC dX7_isCutAt_46 (by decide) ?_
            refine V_istore_n (k := 3) (i := 3) (lv' := [(0, rf G s0 j0), (1, iv v1), (2, iv v2), (3, iv 1), (4, iv v4)]) (q := 51) hC [1, 2, 3, 0, 4] rfl (by decide) rfl dX7_isCutAt_50 rfl ?_
            refine V_iinc (i := 4) (lv' := [(0, rf G s0 j0), (1, iv v1), (2, iv v2), (3, iv 1), (4, iv (wr (v4 + 1)))]) (q := 54) hC 4 rfl [1, 2, 3, 4, 0] (by decide) rfl dX7_isCutAt_51 rfl ?_
            refine V_goto (tgt := 5) hC dX7_isCutAt_54 (by decide) ?_
            refine V_lsub [0, 1, 2, 3, 4] rfl ?_
            exact ih hs h1 h2 (Rg_c rfl) (Rg_wr _) hf
set_option maxHeartbeats 4000000 in
set_option maxRecDepth 100000 in
theorem sX7_isCutAt (l : Launch) {G : GT} (hG : GI G) {s0 : Nat} {j0 : Nat} {v1 : Int} {v2 : Int} (hi0 : InD s0 j0) (h1 : Rg v1) (h2 : Rg v2) {σ : Hp} (hs : RgS σ) {r0 : Int × Hp} (hf : fX7_isCutAt σ s0 j0 v1 v2 = some r0) : Cti l G yX7_isCutAt wsX7_isCutAt rmX7_isCutAt [rf G s0 j0, iv v1, iv v2] σ r0.1 r0.2 := by
  unfold fX7_isCutAt at hf
  refine Cti_start (lv := [(0, rf G s0 j0), (1, iv v1), (2, iv v2)]) (ret := (some .boolean)) (by decide +kernel) rfl hG (Nat.le_of_ble_eq_true rfl) rfl (fun p e s m args below meth c hC hr hlk => ?_)
  refine V_iconst (q := 1) hC dX7_isCutAt_0 rfl ?_
  refine V_istore_n (k := 3) (i := 3) (lv' := [(0, rf G s0 j0), (1, iv v1), (2, iv v2), (3, iv 0)]) (q := 2) hC [1, 2, 3, 0] rfl (by decide) rfl dX7_isCutAt_1 rfl ?_
  refine V_iconst (q := 3) hC dX7_isCutAt_2 rfl ?_
  refine V_istore (i := 4) (lv' := [(0, rf G s0 j0), (1, iv v1), (2, iv v2), (3, iv 0), (4, iv 0)]) (q := 5) hC [1, 2, 3, 4, 0] (by decide) rfl dX7_isCutAt_3 rfl ?_
  refine V_lsub [0, 1, 2, 3, 4] rfl ?_
  exact (tlX7_isCutAt_5 hG hC hr hlk hi0 FU) hs h1 h2 (Rg_c rfl) (Rg_c rfl) hf
/-! X7_readsCut -/
theorem kX7_readsCut_f28 : Cond.fieldLink RX7 28 "BarkNamesModel" "draft" "[I" ∈ wsX7_readsCut := by decide +kernel
theorem uX7_readsCut_7 : ∀ w ∈ u_ws RX7 TX7 22, w ∈ wsX7_readsCut := by decide +kernel
theorem kX7_readsCut_f95 : Cond.fieldLink RX7 95 "BarkNamesModel" "token" "I" ∈ wsX7_readsCut := by decide +kernel
theorem kX7_readsCut_f92 : Cond.fieldLink RX7 92 "BarkNamesModel" "value" "I" ∈ wsX7_readsCut := by decide +kernel
abbrev rmX7_readsCut : Room := { frames := 5, cells := 0, slots := 0, locals := 110 }
set_option maxHeartbeats 4000000 in
set_option maxRecDepth 100000 in
theorem tjX7_readsCut_175 {p : Program} {l : Launch} {e : Env} {s : State} {m : MethodId} {args : Array Value} {below : List Frame} {meth : Method} {c : Code} {G : GT} (hG : GI G) (hC : CX p s m args c cX7_readsCut 6 RX7 wsX7_readsCut G (AA G)) (hr : meth.sig.returnType = none) (hlk : meth.locks = false) {r0 : Int × Hp} {σ : Hp} (hs : RgS σ) {v1 : Int} {v2 : Int} {v3 : Int} {v4 : Int} {v5 : Int} {w0 : Int} (h1 : Rg v1) (h2 : Rg v2) (h3 : Rg v3) (h4 : Rg v4) (h5 : Rg v5) (hw0 : Rg w0) (hf : jX7_readsCut_175 σ v1 v2 v3 v4 v5 w0 = some r0) : VV p l e (headSpec wsX7_readsCut rmX7_readsCut).room s m args below meth c (MQ below (QV G r0.2) args s 0 0 (AA G)) G (AA G) 0 0 6 σ 175 [(0, rf G 7 0), (1, iv v1), (2, iv v2), (3, iv v3), (4, iv v4), (5, iv v5)] [iv w0, rf G 7 0] := by
  unfold jX7_readsCut_175 at hf
  refine V_iconst (q := 176) hC dX7_readsCut_175 rfl ?_
  obtain ⟨r51, σ52, hc53, hf⟩ := cl_some hf
  refine V_cvi (st := []) (q := 179) (x0 := r51) (σ0 := σ52) hC (sX7_takes l hG hw0 (Rg_c rfl) hs hc53) (cwV 2 hC.2.2.2.2.1 gX7_readsCut_X7_takes rfl rfl rfl (by decide +kernel) ⟨Nat.le_of_ble_eq_true rfl, Nat.le_of_ble_eq_true rfl⟩) ⟨_, rfl, rfl⟩ iD7 (fun _ => ⟨_, rfl⟩) rfl rfl (Nat.le_of_ble_eq_true rfl) dX7_readsCut_176 rfl ⟨Nat.zero_le _, Nat.zero_le _⟩ (fun hr54 hs55 => ?_)
  refine V_pop (q := 180) hC rfl dX7_readsCut_179 rfl ?_
  refine V_aload_n (k := 0) (q := 181) hC 0 rfl dX7_readsCut_180 rfl ?_
  refine V_cvi (st := []) (q := 184) hC (sX7_isWell l hG  hs55) (cwV 0 hC.2.2.2.2.1 gX7_readsCut_X7_isWell rfl rfl rfl (by decide +kernel) ⟨Nat.le_of_ble_eq_true rfl, Nat.le_of_ble_eq_true rfl⟩) ⟨_, rfl, rfl⟩ iD7 (fun _ => ⟨_, rfl⟩) rfl rfl (Nat.le_of_ble_eq_true rfl) dX7_readsCut_181 rfl ⟨Nat.zero_le _, Nat.zero_le _⟩ (fun hr56 _ => ?_)
  refine V_if_eq (tgt := 233) (q := 187) hC hr56 dX7_readsCut_184 (by decide) rfl (fun c57 => ?_) (fun c57 => ?_)
  · replace hf := (if_pos c57).symm.trans hf
    exact V_vret hC hr hlk (re_2 hf) hs55 dX7_readsCut_233
  · replace hf := (if_neg c57).symm.trans hf
    refine V_aload_n (k := 0) (q := 188) hC 0 rfl dX7_readsCut_187 rfl ?_
    refine V_getf (T := TX7) (k := 14) (q := 191) hC uX7_readsCut_7 rfl iD7 rfl (by decide) kX7_readsCut_f28 rfl dX7_readsCut_188 rfl ?_
    refine V_iload_n (k := 1) (q := 192) hC 1 rfl dX7_readsCut_191 rfl ?_
    refine V_iload_n (k := 2) (q := 193) hC 2 rfl dX7_readsCut_192 rfl ?_
    obtain ⟨g58, hf⟩ := gd_some hf
    obtain ⟨σ59, e60, hf⟩ := sq_ex hf
    have hs61 : RgS σ59 := by rw [e60]; exact RgS_hup hs55 h2
    refine V_iast (n := 48) (q := 194) hC iD28 rfl g58 h1 e60 dX7_readsCut_193 rfl ?_
    refine V_aload_n (k := 0) (q := 195) hC 0 rfl dX7_readsCut_194 rfl ?_
    refine V_getf (T := TX7) (k := 14) (q := 198) hC uX7_readsCut_7 rfl iD7 rfl (by decide) kX7_readsCut_f28 rfl dX7_readsCut_195 rfl ?_
    refine V_iload_n (k := 1) (q := 199) hC 1 rfl dX7_readsCut_198 rfl ?_
    refine V_iconst (q := 200) hC dX7_readsCut_199 rfl ?_
    refine V_iadd (q := 201) hC dX7_readsCut_200 rfl ?_
    refine V_iload_n (k := 3) (q := 202) hC 3 rfl dX7_readsCut_201 rfl ?_
    obtain ⟨g62, hf⟩ := gd_some hf
    obtain ⟨σ63, e64, hf⟩ := sq_ex hf
    have hs65 : RgS σ63 := by rw [e64]; exact RgS_hup hs61 h3
    refine V_iast (n := 48) (q := 203) hC iD28 rfl g62 (Rg_wr _) e64 dX7_readsCut_202 rfl ?_
    refine V_aload_n (k := 0) (q := 204) hC 0 rfl dX7_readsCut_203 rfl ?_
    refine V_getf (T := TX7) (k := 14) (q := 207) hC uX7_readsCut_7 rfl iD7 rfl (by decide) kX7_readsCut_f28 rfl dX7_readsCut_204 rfl ?_
    refine V_iload_n (k := 1) (q := 208) hC 1 rfl dX7_readsCut_207 rfl ?_
    refine V_iconst (q := 209) hC dX7_readsCut_208 rfl ?_
    refine V_iadd (q := 210) hC dX7_readsCut_209 rfl ?_
    refine V_iload (k := 4) (q := 212) hC 4 rfl dX7_readsCut_210 rfl ?_
    obtain ⟨g66, hf⟩ := gd_some hf
    obtain ⟨σ67, e68, hf⟩ := sq_ex hf
    have hs69 : RgS σ67 := by rw [e68]; exact RgS_hup hs65 h4
    refine V_iast (n := 48) (q := 213) hC iD28 rfl g66 (Rg_wr _) e68 dX7_readsCut_212 rfl ?_
    refine V_aload_n (k := 0) (q := 214) hC 0 rfl dX7_readsCut_213 rfl ?_
    refine V_getf (T := TX7) (k := 14) (q := 217) hC uX7_readsCut_7 rfl iD7 rfl (by decide) kX7_readsCut_f28 rfl dX7_readsCut_214 rfl ?_
    refine V_iload_n (k := 1) (q := 218) hC 1 rfl dX7_readsCut_217 rfl ?_
    refine V_iconst (q := 219) hC dX7_readsCut_218 rfl ?_
    refine V_iadd (q := 220) hC dX7_readsCut_219 rfl ?_
    refine V_iload (k := 5) (q := 222) hC 5 rfl dX7_readsCut_220 rfl ?_
    obtain ⟨g70, hf⟩ := gd_some hf
    obtain ⟨σ71, e72, hf⟩ := sq_ex hf
    have hs73 : RgS σ71 := by rw [e72]; exact RgS_hup hs69 h5
    refine V_iast (n := 48) (q := 223) hC iD28 rfl g70 (Rg_wr _) e72 dX7_readsCut_222 rfl ?_
    refine V_aload_n (k := 0) (q := 224) hC 0 rfl dX7_readsCut_223 rfl ?_
    refine V_getf (T := TX7) (k := 14) (q := 227) hC uX7_readsCut_7 rfl iD7 rfl (by decide) kX7_readsCut_f28 rfl dX7_readsCut_224 rfl ?_
    refine V_iconst (q := 228) hC dX7_readsCut_227 rfl ?_
    refine V_dup2 (q := 229) hC rfl rfl dX7_readsCut_228 rfl ?_
    refine V_iald (n := 48) (q := 230) hC iD28 rfl ⟨by decide, by decide⟩ (Rg_c rfl) dX7_readsCut_229 rfl ?_
    refine V_iconst (q := 231) hC dX7_readsCut_230 rfl ?_
    refine V_iadd (q := 232) hC dX7_readsCut_231 rfl ?_
    obtain ⟨σ74, e75, hf⟩ := sq_ex hf
    have hs76 : RgS σ74 := by rw [e75]; exact RgS_hup hs73 (Rg_wr _)
    refine V_iast (n := 48) (q := 233) hC iD28 rfl ⟨by decide, by decide⟩ (Rg_c rfl) e75 dX7_readsCut_232 rfl ?_
    exact V_vret hC hr hlk (re_2 hf) hs76 dX7_readsCut_233
set_option maxHeartbeats 4000000 in
set_option maxRecDepth 100000 in
theorem tjX7_readsCut_146 {p : Program} {l : Launch} {e : Env} {s : State} {m : MethodId} {args : Array Value} {below : List Frame} {meth : Method} {c : Code} {G : GT} (hG : GI G) (hC : CX p s m args c cX7_readsCut 6 RX7 wsX7_readsCut G (AA G)) (hr : meth.sig.returnType = none) (hlk : meth.locks = false) {r0 : Int × Hp} {σ : Hp} (hs : RgS σ) {v1 : Int} {v2 : Int} {v3 : Int} {w0 : Int} (h1 : Rg v1) (h2 : Rg v2) (h3 : Rg v3) (hw0 : Rg w0) (hf : jX7_readsCut_146 σ v1 v2 v3 w0 = some r0) : VV p l e (headSpec wsX7_readsCut rmX7_readsCut).room s m args below meth c (MQ below (QV G r0.2) args s 0 0 (AA G)) G (AA G) 0 0 6 σ 146 [(0, rf G 7 0), (1, iv v1), (2, iv v2), (3, iv v3)] [iv w0, rf G 7 0] := by
  unfold jX7_readsCut_146 at hf
  refine V_iconst (q := 147) hC dX7_readsCut_146 rfl ?_
  obtain ⟨r40, σ41, hc42, hf⟩ := cl_some hf
  refine V_cvi (st := []) (q := 150) (x0 := r40) (σ0 := σ41) hC (sX7_takes l hG hw0 (Rg_c rfl) hs hc42) (cwV 2 hC.2.2.2.2.1 gX7_readsCut_X7_takes rfl rfl rfl (by decide +kernel) ⟨Nat.le_of_ble_eq_true rfl, Nat.le_of_ble_eq_true rfl⟩) ⟨_, rfl, rfl⟩ iD7 (fun _ => ⟨_, rfl⟩) rfl rfl (Nat.le_of_ble_eq_true rfl) dX7_readsCut_147 rfl ⟨Nat.zero_le _, Nat.zero_le _⟩ (fun hr43 hs44 => ?_)
  refine V_istore (i := 4) (lv' := [(0, rf G 7 0), (1, iv v1), (2, iv v2), (3, iv v3), (4, iv r40)]) (q := 152) hC [1, 2, 3, 4, 0] (by decide) rfl dX7_readsCut_150 rfl ?_
  refine V_aload_n (k := 0) (q := 153) hC 0 rfl dX7_readsCut_152 rfl ?_
  refine V_iconst (q := 154) hC dX7_readsCut_153 rfl ?_
  refine V_bipush (q := 156) hC (by decide) dX7_readsCut_154 rfl ?_
  obtain ⟨r45, σ46, hc47, hf⟩ := cl_some hf
  refine V_cvi (st := []) (q := 159) (x0 := r45) (σ0 := σ46) hC (sX7_next l hG (Rg_c rfl) (Rg_c rfl) hs44 hc47) (cwV 2 hC.2.2.2.2.1 gX7_readsCut_X7_next rfl rfl rfl (by decide +kernel) ⟨Nat.le_of_ble_eq_true rfl, Nat.le_of_ble_eq_true rfl⟩) ⟨_, rfl, rfl⟩ iD7 (fun _ => ⟨_, rfl⟩) rfl rfl (Nat.le_of_ble_eq_true rfl) dX7_readsCut_156 rfl ⟨Nat.zero_le _, Nat.zero_le _⟩ (fun hr48 hs49 => ?_)
  refine V_istore (i := 5) (lv' := [(0, rf G 7 0), (1, iv v1), (2, iv v2), (3, iv v3), (4, iv r40), (5, iv r45)]) (q := 161) hC [1, 2, 3, 4, 5, 0] (by decide) rfl dX7_readsCut_159 rfl ?_
  refine V_aload_n (k := 0) (q := 162) hC 0 rfl dX7_readsCut_161 rfl ?_
  refine V_aload_n (k := 0) (q := 163) hC 0 rfl dX7_readsCut_162 rfl ?_
  refine V_getf (T := TX7) (k := 11) (q := 166) hC uX7_readsCut_7 rfl iD7 rfl (by decide) kX7_readsCut_f95 rfl dX7_readsCut_163 rfl ?_
  refine V_iconst (q := 167) hC dX7_readsCut_166 rfl ?_
  refine V_icmp_ne (tgt := 174) (q := 170) hC (hs49 _ _ _) (Rg_c rfl) dX7_readsCut_167 (by decide) rfl (fun c50 => ?_) (fun c50 => ?_)
  · replace hf := (if_neg c50).symm.trans hf
    refine V_iconst (q := 175) hC dX7_readsCut_174 rfl ?_
    refine V_lsub [0, 1, 2, 3, 4, 5] rfl ?_
    exact tjX7_readsCut_175 hG hC hr hlk hs49 h1 h2 h3 hr43 hr48 (Rg_c rfl) hf
  · replace hf := (if_pos c50).symm.trans hf
    refine V_iconst (q := 171) hC dX7_readsCut_170 rfl ?_
    refine V_goto (tgt := 175) hC dX7_readsCut_171 (by decide) ?_
    refine V_lsub [0, 1, 2, 3, 4, 5] rfl ?_
    exact tjX7_readsCut_175 hG hC hr hlk hs49 h1 h2 h3 hr43 hr48 (Rg_c rfl) hf
set_option maxHeartbeats 4000000 in
set_option maxRecDepth 100000 in
theorem tjX7_readsCut_112 {p : Program} {l : Launch} {e : Env} {s : State} {m : MethodId} {args : Array Value} {below : List Frame} {meth : Method} {c : Code} {G : GT} (hG : GI G) (hC : CX p s m args c cX7_readsCut 6 RX7 wsX7_readsCut G (AA G)) (hr : meth.sig.returnType = none) (hlk : meth.locks = false) {r0 : Int × Hp} {σ : Hp} (hs : RgS σ) {v1 : Int} {v2 : Int} {v3 : Int} (h1 : Rg v1) (h2 : Rg v2) (h3 : Rg v3) (hf : jX7_readsCut_112 σ v1 v2 v3 = some r0) : VV p l e (headSpec wsX7_readsCut rmX7_readsCut).room s m args below meth c (MQ below (QV G r0.2) args s 0 0 (AA G)) G (AA G) 0 0 6 σ 112 [(0, rf G 7 0), (1, iv v1), (2, iv v2), (3, iv v3)] [] := by
  unfold jX7_readsCut_112 at hf
  refine V_aload_n (k := 0) (q := 113) hC 0 rfl dX7_readsCut_112 rfl ?_
  refine V_aload_n (k := 0) (q := 114) hC 0 rfl dX7_readsCut_113 rfl ?_
  refine V_getf (T := TX7) (k := 12) (q := 117) hC uX7_readsCut_7 rfl iD7 rfl (by decide) kX7_readsCut_f92 rfl dX7_readsCut_114 rfl ?_
  refine V_iconst (q := 118) hC dX7_readsCut_117 rfl ?_
  refine V_bipush (q := 120) hC (by decide) dX7_readsCut_118 rfl ?_
  refine V_csi (st := [rf G 7 0]) (q := 123) hC (sX7_in l hG (hs _ _ _) (Rg_c rfl) (Rg_c rfl) hs) (va_cwS 3 hC.2.2.2.2.1 gX7_readsCut_X7_in rfl rfl rfl (by decide +kernel) ⟨Nat.le_of_ble_eq_true rfl, Nat.le_of_ble_eq_true rfl⟩) rfl rfl (Nat.le_of_ble_eq_true rfl) dX7_readsCut_120 rfl ⟨Nat.zero_le _, Nat.zero_le _⟩ (fun hr32 _ => ?_)
  refine V_if_eq (tgt := 145) (q := 126) hC hr32 dX7_readsCut_123 (by decide) rfl (fun c33 => ?_) (fun c33 => ?_)
  · replace hf := (if_pos c33).symm.trans hf
    refine V_iconst (q := 146) hC dX7_readsCut_145 rfl ?_
    refine V_lsub [0, 1, 2, 3] rfl ?_
    exact tjX7_readsCut_146 hG hC hr hlk hs h1 h2 h3 (Rg_c rfl) hf
  · replace hf := (if_neg c33).symm.trans hf
    refine V_aload_n (k := 0) (q := 127) hC 0 rfl dX7_readsCut_126 rfl ?_
    refine V_getf (T := TX7) (k := 14) (q := 130) hC uX7_readsCut_7 rfl iD7 rfl (by decide) kX7_readsCut_f28 rfl dX7_readsCut_127 rfl ?_
    refine V_iload_n (k := 2) (q := 131) hC 2 rfl dX7_readsCut_130 rfl ?_
    refine V_aload_n (k := 0) (q := 132) hC 0 rfl dX7_readsCut_131 rfl ?_
    refine V_getf (T := TX7) (k := 12) (q := 135) hC uX7_readsCut_7 rfl iD7 rfl (by decide) kX7_readsCut_f92 rfl dX7_readsCut_132 rfl ?_
    obtain ⟨r34, σ35, hc36, hf⟩ := cl_some hf
    refine V_csi (st := [rf G 7 0]) (q := 138) (x0 := r34) (σ0 := σ35) hC (sX7_isCutAt l hG iD28 h2 (hs _ _ _) hs hc36) (va_cwS 3 hC.2.2.2.2.1 gX7_readsCut_X7_isCutAt rfl rfl rfl (by decide +kernel) ⟨Nat.le_of_ble_eq_true rfl, Nat.le_of_ble_eq_true rfl⟩) rfl rfl (Nat.le_of_ble_eq_true rfl) dX7_readsCut_135 rfl ⟨Nat.zero_le _, Nat.zero_le _⟩ (fun hr37 hs38 => ?_)
    refine V_if_ne (tgt := 145) (q := 141) hC hr37 dX7_readsCut_138 (by decide) rfl (fun c39 => ?_) (fun c39 => ?_)
    · replace hf := (if_neg c39).symm.trans hf
      refine V_iconst (q := 146) hC dX7_readsCut_145 rfl ?_
      refine V_lsub [0, 1, 2, 3] rfl ?_
      exact tjX7_readsCut_146 hG hC hr hlk hs38 h1 h2 h3 (Rg_c rfl) hf
    · replace hf := (if_pos c39).symm.trans hf
      refine V_iconst (q := 142) hC dX7_readsCut_141 rfl ?_
      refine V_goto (tgt := 146) hC dX7_readsCut_142 (by decide) ?_
      refine V_lsub [0, 1, 2, 3] rfl ?_
      exact tjX7_readsCut_146 hG hC hr hlk hs38 h1 h2 h3 (Rg_c rfl) hf
set_option maxHeartbeats 4000000 in
set_option maxRecDepth 100000 in
theorem tjX7_readsCut_85 {p : Program} {l : Launch} {e : Env} {s : State} {m : MethodId} {args : Array Value} {below : List Frame} {meth : Method} {c : Code} {G : GT} (hG : GI G) (hC : CX p s m args c cX7_readsCut 6 RX7 wsX7_readsCut G (AA G)) (hr : meth.sig.returnType = none) (hlk : meth.locks = false) {r0 : Int × Hp} {σ : Hp} (hs : RgS σ) {v1 : Int} {v2 : Int} {v3 : Int} {w0 : Int} (h1 : Rg v1) (h2 : Rg v2) (h3 : Rg v3) (hw0 : Rg w0) (hf : jX7_readsCut_85 σ v1 v2 v3 w0 = some r0) : VV p l e (headSpec wsX7_readsCut rmX7_readsCut).room s m args below meth c (MQ below (QV G r0.2) args s 0 0 (AA G)) G (AA G) 0 0 6 σ 85 [(0, rf G 7 0), (1, iv v1), (2, iv v2), (3, iv v3)] [iv w0, rf G 7 0] := by
  unfold jX7_readsCut_85 at hf
  refine V_iconst (q := 86) hC dX7_readsCut_85 rfl ?_
  obtain ⟨r19, σ20, hc21, hf⟩ := cl_some hf
  refine V_cvi (st := []) (q := 89) (x0 := r19) (σ0 := σ20) hC (sX7_takes l hG hw0 (Rg_c rfl) hs hc21) (cwV 2 hC.2.2.2.2.1 gX7_readsCut_X7_takes rfl rfl rfl (by decide +kernel) ⟨Nat.le_of_ble_eq_true rfl, Nat.le_of_ble_eq_true rfl⟩) ⟨_, rfl, rfl⟩ iD7 (fun _ => ⟨_, rfl⟩) rfl rfl (Nat.le_of_ble_eq_true rfl) dX7_readsCut_86 rfl ⟨Nat.zero_le _, Nat.zero_le _⟩ (fun hr22 hs23 => ?_)
  refine V_pop (q := 90) hC rfl dX7_readsCut_89 rfl ?_
  refine V_aload_n (k := 0) (q := 91) hC 0 rfl dX7_readsCut_90 rfl ?_
  refine V_cvi (st := []) (q := 94) hC (sX7_isWell l hG  hs23) (cwV 0 hC.2.2.2.2.1 gX7_readsCut_X7_isWell rfl rfl rfl (by decide +kernel) ⟨Nat.le_of_ble_eq_true rfl, Nat.le_of_ble_eq_true rfl⟩) ⟨_, rfl, rfl⟩ iD7 (fun _ => ⟨_, rfl⟩) rfl rfl (Nat.le_of_ble_eq_true rfl) dX7_readsCut_91 rfl ⟨Nat.zero_le _, Nat.zero_le _⟩ (fun hr24 _ => ?_)
  refine V_if_eq (tgt := 112) (q := 97) hC hr24 dX7_readsCut_94 (by decide) rfl (fun c25 => ?_) (fun c25 => ?_)
  · replace hf := (if_pos c25).symm.trans hf
    refine V_lsub [0, 1, 2, 3] rfl ?_
    exact tjX7_readsCut_112 hG hC hr hlk hs23 h1 h2 h3 hf
  · replace hf := (if_neg c25).symm.trans hf
    refine V_aload_n (k := 0) (q := 98) hC 0 rfl dX7_readsCut_97 rfl ?_
    refine V_getf (T := TX7) (k := 11) (q := 101) hC uX7_readsCut_7 rfl iD7 rfl (by decide) kX7_readsCut_f95 rfl dX7_readsCut_98 rfl ?_
    refine V_iconst (q := 102) hC dX7_readsCut_101 rfl ?_
    refine V_icmp_eq (tgt := 112) (q := 105) hC (hs23 _ _ _) (Rg_c rfl) dX7_readsCut_102 (by decide) rfl (fun c26 => ?_) (fun c26 => ?_)
    · replace hf := (if_pos c26).symm.trans hf
      refine V_lsub [0, 1, 2, 3] rfl ?_
      exact tjX7_readsCut_112 hG hC hr hlk hs23 h1 h2 h3 hf
    · replace hf := (if_neg c26).symm.trans hf
      refine V_aload_n (k := 0) (q := 106) hC 0 rfl dX7_readsCut_105 rfl ?_
      refine V_iconst (q := 107) hC dX7_readsCut_106 rfl ?_
      refine V_iconst (q := 108) hC dX7_readsCut_107 rfl ?_
      obtain ⟨r27, σ28, hc29, hf⟩ := cl_some hf
      refine V_cvi (st := []) (q := 111) (x0 := r27) (σ0 := σ28) hC (sX7_takes l hG (Rg_c rfl) (Rg_c rfl) hs23 hc29) (cwV 2 hC.2.2.2.2.1 gX7_readsCut_X7_takes rfl rfl rfl (by decide +kernel) ⟨Nat.le_of_ble_eq_true rfl, Nat.le_of_ble_eq_true rfl⟩) ⟨_, rfl, rfl⟩ iD7 (fun _ => ⟨_, rfl⟩) rfl rfl (Nat.le_of_ble_eq_true rfl) dX7_readsCut_108 rfl ⟨Nat.zero_le _, Nat.zero_le _⟩ (fun hr30 hs31 => ?_)
      refine V_pop (q := 112) hC rfl dX7_readsCut_111 rfl ?_
      refine V_lsub [0, 1, 2, 3] rfl ?_
      exact tjX7_readsCut_112 hG hC hr hlk hs31 h1 h2 h3 hf
set_option maxHeartbeats 4000000 in
set_option maxRecDepth 100000 in
theorem tjX7_readsCut_46 {p : Program} {l : Launch} {e : Env} {s : State} {m : MethodId} {args : Array Value} {below : List Frame} {meth : Method} {c : Code} {G : GT} (hG : GI G) (hC : CX p s m args c cX7_readsCut 6 RX7 wsX7_readsCut G (AA G)) (hr : meth.sig.returnType = none) (hlk : meth.locks = false) {r0 : Int × Hp} {σ : Hp} (hs : RgS σ) {w0 : Int} {w1 : Int} {w2 : Int} (hw0 : Rg w0) (hw1 : Rg w1) (hw2 : Rg w2) (hf : jX7_readsCut_46 σ w0 w1 w2 = some r0) : VV p l e (headSpec wsX7_readsCut rmX7_readsCut).room s m args below meth c (MQ below (QV G r0.2) args s 0 0 (AA G)) G (AA G) 0 0 6 σ 46 [(0, rf G 7 0)] [iv w0, iv w1, iv w2] := by
  unfold jX7_readsCut_46 at hf
  refine V_imul (q := 47) hC dX7_readsCut_46 rfl ?_
  refine V_iadd (q := 48) hC dX7_readsCut_47 rfl ?_
  refine V_istore_n (k := 1) (i := 1) (lv' := [(0, rf G 7 0), (1, iv (wr (w2 + (wr (w1 * w0)))))]) (q := 49) hC [1, 0] rfl (by decide) rfl dX7_readsCut_48 rfl ?_
  refine V_aload_n (k := 0) (q := 50) hC 0 rfl dX7_readsCut_49 rfl ?_
  refine V_iconst (q := 51) hC dX7_readsCut_50 rfl ?_
  refine V_aload_n (k := 0) (q := 52) hC 0 rfl dX7_readsCut_51 rfl ?_
  refine V_getf (T := TX7) (k := 14) (q := 55) hC uX7_readsCut_7 rfl iD7 rfl (by decide) kX7_readsCut_f28 rfl dX7_readsCut_52 rfl ?_
  refine V_iconst (q := 56) hC dX7_readsCut_55 rfl ?_
  refine V_iald (n := 48) (q := 57) hC iD28 rfl ⟨by decide, by decide⟩ (Rg_c rfl) dX7_readsCut_56 rfl ?_
  refine V_iconst (q := 58) hC dX7_readsCut_57 rfl ?_
  refine V_isub (q := 59) hC dX7_readsCut_58 rfl ?_
  obtain ⟨r8, σ9, hc10, hf⟩ := cl_some hf
  refine V_cvi (st := []) (q := 62) (x0 := r8) (σ0 := σ9) hC (sX7_figure l hG (Rg_c rfl) (Rg_wr _) hs hc10) (cwV 2 hC.2.2.2.2.1 gX7_readsCut_X7_figure rfl rfl rfl (by decide +kernel) ⟨Nat.le_of_ble_eq_true rfl, Nat.le_of_ble_eq_true rfl⟩) ⟨_, rfl, rfl⟩ iD7 (fun _ => ⟨_, rfl⟩) rfl rfl (Nat.le_of_ble_eq_true rfl) dX7_readsCut_59 rfl ⟨Nat.zero_le _, Nat.zero_le _⟩ (fun hr11 hs12 => ?_)
  refine V_istore_n (k := 2) (i := 2) (lv' := [(0, rf G 7 0), (1, iv (wr (w2 + (wr (w1 * w0))))), (2, iv r8)]) (q := 63) hC [1, 2, 0] rfl (by decide) rfl dX7_readsCut_62 rfl ?_
  refine V_aload_n (k := 0) (q := 64) hC 0 rfl dX7_readsCut_63 rfl ?_
  refine V_iconst (q := 65) hC dX7_readsCut_64 rfl ?_
  refine V_bipush (q := 67) hC (by decide) dX7_readsCut_65 rfl ?_
  obtain ⟨r13, σ14, hc15, hf⟩ := cl_some hf
  refine V_cvi (st := []) (q := 70) (x0 := r13) (σ0 := σ14) hC (sX7_next l hG (Rg_c rfl) (Rg_c rfl) hs12 hc15) (cwV 2 hC.2.2.2.2.1 gX7_readsCut_X7_next rfl rfl rfl (by decide +kernel) ⟨Nat.le_of_ble_eq_true rfl, Nat.le_of_ble_eq_true rfl⟩) ⟨_, rfl, rfl⟩ iD7 (fun _ => ⟨_, rfl⟩) rfl rfl (Nat.le_of_ble_eq_true rfl) dX7_readsCut_67 rfl ⟨Nat.zero_le _, Nat.zero_le _⟩ (fun hr16 hs17 => ?_)
  refine V_istore_n (k := 3) (i := 3) (lv' := [(0, rf G 7 0), (1, iv (wr (w2 + (wr (w1 * w0))))), (2, iv r8), (3, iv r13)]) (q := 71) hC [1, 2, 3, 0] rfl (by decide) rfl dX7_readsCut_70 rfl ?_
  refine V_aload_n (k := 0) (q := 72) hC 0 rfl dX7_readsCut_71 rfl ?_
  refine V_aload_n (k := 0) (q := 73) hC 0 rfl dX7_readsCut_72 rfl ?_
  refine V_getf (T := TX7) (k := 11) (q := 76) hC uX7_readsCut_7 rfl iD7 rfl (by decide) kX7_readsCut_f95 rfl dX7_readsCut_73 rfl ?_
  refine V_iconst (q := 77) hC dX7_readsCut_76 rfl ?_
  refine V_icmp_ne (tgt := 84) (q := 80) hC (hs17 _ _ _) (Rg_c rfl) dX7_readsCut_77 (by decide) rfl (fun c18 => ?_) (fun c18 => ?_)
  · replace hf := (if_neg c18).symm.trans hf
    refine V_iconst (q := 85) hC dX7_readsCut_84 rfl ?_
    refine V_lsub [0, 1, 2, 3] rfl ?_
    exact tjX7_readsCut_85 hG hC hr hlk hs17 (Rg_wr _) hr11 hr16 (Rg_c rfl) hf
  · replace hf := (if_pos c18).symm.trans hf
    refine V_iconst (q := 81) hC dX7_readsCut_80 rfl ?_
    refine V_goto (tgt := 85) hC dX7_readsCut_81 (by decide) ?_
    refine V_lsub [0, 1, 2, 3] rfl ?_
    exact tjX7_readsCut_85 hG hC hr hlk hs17 (Rg_wr _) hr11 hr16 (Rg_c rfl) hf
set_option maxHeartbeats 4000000 in
set_option maxRecDepth 100000 in
theorem tjX7_readsCut_17 {p : Program} {l : Launch} {e : Env} {s : State} {m : MethodId} {args : Array Value} {below : List Frame} {meth : Method} {c : Code} {G : GT} (hG : GI G) (hC : CX p s m args c cX7_readsCut 6 RX7 wsX7_readsCut G (AA G)) (hr : meth.sig.returnType = none) (hlk : meth.locks = false) {r0 : Int × Hp} {σ : Hp} (hs : RgS σ) {w0 : Int} (hw0 : Rg w0) (hf : jX7_readsCut_17 σ w0 = some r0) : VV p l e (headSpec wsX7_readsCut rmX7_readsCut).room s m args below meth c (MQ below (QV G r0.2) args s 0 0 (AA G)) G (AA G) 0 0 6 σ 17 [(0, rf G 7 0)] [iv w0, rf G 7 0] := by
  unfold jX7_readsCut_17 at hf
  refine V_iconst (q := 18) hC dX7_readsCut_17 rfl ?_
  obtain ⟨r2, σ3, hc4, hf⟩ := cl_some hf
  refine V_cvi (st := []) (q := 21) (x0 := r2) (σ0 := σ3) hC (sX7_takes l hG hw0 (Rg_c rfl) hs hc4) (cwV 2 hC.2.2.2.2.1 gX7_readsCut_X7_takes rfl rfl rfl (by decide +kernel) ⟨Nat.le_of_ble_eq_true rfl, Nat.le_of_ble_eq_true rfl⟩) ⟨_, rfl, rfl⟩ iD7 (fun _ => ⟨_, rfl⟩) rfl rfl (Nat.le_of_ble_eq_true rfl) dX7_readsCut_18 rfl ⟨Nat.zero_le _, Nat.zero_le _⟩ (fun hr5 hs6 => ?_)
  refine V_pop (q := 22) hC rfl dX7_readsCut_21 rfl ?_
  refine V_bipush (q := 24) hC (by decide) dX7_readsCut_22 rfl ?_
  refine V_iconst (q := 25) hC dX7_readsCut_24 rfl ?_
  refine V_aload_n (k := 0) (q := 26) hC 0 rfl dX7_readsCut_25 rfl ?_
  refine V_getf (T := TX7) (k := 14) (q := 29) hC uX7_readsCut_7 rfl iD7 rfl (by decide) kX7_readsCut_f28 rfl dX7_readsCut_26 rfl ?_
  refine V_iconst (q := 30) hC dX7_readsCut_29 rfl ?_
  refine V_iald (n := 48) (q := 31) hC iD28 rfl ⟨by decide, by decide⟩ (Rg_c rfl) dX7_readsCut_30 rfl ?_
  refine V_bipush (q := 33) hC (by decide) dX7_readsCut_31 rfl ?_
  refine V_icmp_ge (tgt := 45) (q := 36) hC (hs6 _ _ _) (Rg_c rfl) dX7_readsCut_33 (by decide) rfl (fun c7 => ?_) (fun c7 => ?_)
  · replace hf := (if_pos c7).symm.trans hf
    refine V_iconst (q := 46) hC dX7_readsCut_45 rfl ?_
    refine V_lsub [0] rfl ?_
    exact tjX7_readsCut_46 hG hC hr hlk hs6 (Rg_c rfl) (Rg_c rfl) (Rg_c rfl) hf
  · replace hf := (if_neg c7).symm.trans hf
    refine V_aload_n (k := 0) (q := 37) hC 0 rfl dX7_readsCut_36 rfl ?_
    refine V_getf (T := TX7) (k := 14) (q := 40) hC uX7_readsCut_7 rfl iD7 rfl (by decide) kX7_readsCut_f28 rfl dX7_readsCut_37 rfl ?_
    refine V_iconst (q := 41) hC dX7_readsCut_40 rfl ?_
    refine V_iald (n := 48) (q := 42) hC iD28 rfl ⟨by decide, by decide⟩ (Rg_c rfl) dX7_readsCut_41 rfl ?_
    refine V_goto (tgt := 46) hC dX7_readsCut_42 (by decide) ?_
    refine V_lsub [0] rfl ?_
    exact tjX7_readsCut_46 hG hC hr hlk hs6 (hs6 _ _ _) (Rg_c rfl) (Rg_c rfl) hf
set_option maxHeartbeats 4000000 in
set_option maxRecDepth 100000 in
theorem sX7_readsCut (l : Launch) {G : GT} (hG : GI G) {σ : Hp} (hs : RgS σ) {r0 : Int × Hp} (hf : fX7_readsCut σ = some r0) : Ctv l G yX7_readsCut wsX7_readsCut rmX7_readsCut [rf G 7 0] σ r0.2 := by
  unfold fX7_readsCut at hf
  refine Ctv_start (lv := [(0, rf G 7 0)]) (ret := none) (by decide +kernel) rfl hG (Nat.le_of_ble_eq_true rfl) rfl (fun p e s m args below meth c hC hr hlk => ?_)
  refine V_aload_n (k := 0) (q := 1) hC 0 rfl dX7_readsCut_0 rfl ?_
  refine V_aload_n (k := 0) (q := 2) hC 0 rfl dX7_readsCut_1 rfl ?_
  refine V_getf (T := TX7) (k := 14) (q := 5) hC uX7_readsCut_7 rfl iD7 rfl (by decide) kX7_readsCut_f28 rfl dX7_readsCut_2 rfl ?_
  refine V_iconst (q := 6) hC dX7_readsCut_5 rfl ?_
  refine V_iald (n := 48) (q := 7) hC iD28 rfl ⟨by decide, by decide⟩ (Rg_c rfl) dX7_readsCut_6 rfl ?_
  refine V_bipush (q := 9) hC (by decide) dX7_readsCut_7 rfl ?_
  refine V_icmp_ge (tgt := 16) (q := 12) hC (hs _ _ _) (Rg_c rfl) dX7_readsCut_9 (by decide) rfl (fun c1 => ?_) (fun c1 => ?_)
  · replace hf := (if_pos c1).symm.trans hf
    refine V_iconst (q := 17) hC dX7_readsCut_16 rfl ?_
    refine V_lsub [0] rfl ?_
    exact tjX7_readsCut_17 hG hC hr hlk hs (Rg_c rfl) hf
  · replace hf := (if_neg c1).symm.trans hf
    refine V_iconst (q := 13) hC dX7_readsCut_12 rfl ?_
    refine V_goto (tgt := 17) hC dX7_readsCut_13 (by decide) ?_
    refine V_lsub [0] rfl ?_
    exact tjX7_readsCut_17 hG hC hr hlk hs (Rg_c rfl) hf
/-! X7_wood -/
theorem kX7_wood_f83 : Cond.fieldLink RX7 83 "BarkNamesModel" "at" "I" ∈ wsX7_wood := by decide +kernel
theorem uX7_wood_7 : ∀ w ∈ u_ws RX7 TX7 22, w ∈ wsX7_wood := by decide +kernel
theorem kX7_wood_f98 : Cond.fieldLink RX7 98 "BarkNamesModel" "faultPlace" "I" ∈ wsX7_wood := by decide +kernel
theorem kX7_wood_f95 : Cond.fieldLink RX7 95 "BarkNamesModel" "token" "I" ∈ wsX7_wood := by decide +kernel
theorem kX7_wood_f92 : Cond.fieldLink RX7 92 "BarkNamesModel" "value" "I" ∈ wsX7_wood := by decide +kernel
theorem kX7_wood_f28 : Cond.fieldLink RX7 28 "BarkNamesModel" "draft" "[I" ∈ wsX7_wood := by decide +kernel
theorem kX7_wood_f79 : Cond.fieldLink RX7 79 "BarkNamesModel" "taped" "I" ∈ wsX7_wood := by decide +kernel
theorem kX7_wood_f25 : Cond.fieldLink RX7 25 "BarkNamesModel" "now" "[I" ∈ wsX7_wood := by decide +kernel
theorem kX7_wood_f139 : Cond.fieldLink RX7 139 "BarkNamesModel" "acts" "I" ∈ wsX7_wood := by decide +kernel
theorem kX7_wood_c134 : Cond.constant RX7 134 (-1000100) ∈ wsX7_wood := by decide +kernel
abbrev rmX7_wood : Room := { frames := 6, cells := 0, slots := 0, locals := 135 }
set_option maxHeartbeats 4000000 in
set_option maxRecDepth 100000 in
theorem tjX7_wood_179 {p : Program} {l : Launch} {e : Env} {s : State} {m : MethodId} {args : Array Value} {below : List Frame} {meth : Method} {c : Code} {G : GT} (hG : GI G) (hC : CX p s m args c cX7_wood 2 RX7 wsX7_wood G (AA G)) (hr : meth.sig.returnType = (some .int)) (hlk : meth.locks = false) {r0 : Int × Hp} {σ : Hp} (hs : RgS σ) (hf : jX7_wood_179 σ = some r0) : VV p l e (headSpec wsX7_wood rmX7_wood).room s m args below meth c (MQ below (QI G r0.1 r0.2) args s 0 0 (AA G)) G (AA G) 0 0 2 σ 179 [(0, rf G 7 0)] [] := by
  unfold jX7_wood_179 at hf
  refine V_aload_n (k := 0) (q := 180) hC 0 rfl dX7_wood_179 rfl ?_
  refine V_iconst (q := 181) hC dX7_wood_180 rfl ?_
  obtain ⟨σ70, e71, hf⟩ := sq_ex hf
  have hs72 : RgS σ70 := by rw [e71]; exact RgS_hup hs (Rg_c rfl)
  refine V_putf (T := TX7) (k := 6) (ty := .int) (q := 184) hC uX7_wood_7 rfl tyX7 tyX7_ok nmX7 iD7 rfl (pf_7_6 _ _ _ _ rfl) (by decide) kX7_wood_f79 rfl (by decide +kernel) rfl rfl (Nat.le_of_ble_eq_true rfl) e71 dX7_wood_181 rfl ?_
  refine V_aload_n (k := 0) (q := 185) hC 0 rfl dX7_wood_184 rfl ?_
  refine V_cvi (st := []) (q := 188) hC (sX7_isWell l hG  hs72) (cwV 0 hC.2.2.2.2.1 gX7_wood_X7_isWell rfl rfl rfl (by decide +kernel) ⟨Nat.le_of_ble_eq_true rfl, Nat.le_of_ble_eq_true rfl⟩) ⟨_, rfl, rfl⟩ iD7 (fun _ => ⟨_, rfl⟩) rfl rfl (Nat.le_of_ble_eq_true rfl) dX7_wood_185 rfl ⟨Nat.zero_le _, Nat.zero_le _⟩ (fun hr73 _ => ?_)
  refine V_if_ne (tgt := 199) (q := 191) hC hr73 dX7_wood_188 (by decide) rfl (fun c74 => ?_) (fun c74 => ?_)
  · replace hf := (if_neg c74).symm.trans hf
    refine V_aload_n (k := 0) (q := 200) hC 0 rfl dX7_wood_199 rfl ?_
    refine V_getf (T := TX7) (k := 14) (q := 203) hC uX7_wood_7 rfl iD7 rfl (by decide) kX7_wood_f28 rfl dX7_wood_200 rfl ?_
    refine V_iconst (q := 204) hC dX7_wood_203 rfl ?_
    refine V_aload_n (k := 0) (q := 205) hC 0 rfl dX7_wood_204 rfl ?_
    refine V_getf (T := TX7) (k := 13) (q := 208) hC uX7_wood_7 rfl iD7 rfl (by decide) kX7_wood_f25 rfl dX7_wood_205 rfl ?_
    refine V_iconst (q := 209) hC dX7_wood_208 rfl ?_
    obtain ⟨r75, σ76, hc77, hf⟩ := cl_some hf
    refine V_csv (st := []) (q := 212) (σ0 := σ76) hC (sX7_copies l hG iD28 (Rg_c rfl) iD27 (Rg_c rfl) hs72 hc77) (va_cwS 4 hC.2.2.2.2.1 gX7_wood_X7_copies rfl rfl rfl (by decide +kernel) ⟨Nat.le_of_ble_eq_true rfl, Nat.le_of_ble_eq_true rfl⟩) rfl rfl (Nat.le_of_ble_eq_true rfl) dX7_wood_209 rfl ⟨Nat.zero_le _, Nat.zero_le _⟩ (fun hs79 => ?_)
    refine V_aload_n (k := 0) (q := 213) hC 0 rfl dX7_wood_212 rfl ?_
    refine V_iconst (q := 214) hC dX7_wood_213 rfl ?_
    obtain ⟨σ80, e81, hf⟩ := sq_ex hf
    have hs82 : RgS σ80 := by rw [e81]; exact RgS_hup hs79 (Rg_c rfl)
    refine V_putf (T := TX7) (k := 16) (ty := .int) (q := 217) hC uX7_wood_7 rfl tyX7 tyX7_ok nmX7 iD7 rfl (pf_7_16 _ _ _ _ rfl) (by decide) kX7_wood_f139 rfl (by decide +kernel) rfl rfl (Nat.le_of_ble_eq_true rfl) e81 dX7_wood_214 rfl ?_
    refine V_aload_n (k := 0) (q := 218) hC 0 rfl dX7_wood_217 rfl ?_
    refine V_getf (T := TX7) (k := 13) (q := 221) hC uX7_wood_7 rfl iD7 rfl (by decide) kX7_wood_f25 rfl dX7_wood_218 rfl ?_
    refine V_iconst (q := 222) hC dX7_wood_221 rfl ?_
    refine V_iald (n := 48) (q := 223) hC iD27 rfl ⟨by decide, by decide⟩ (Rg_c rfl) dX7_wood_222 rfl ?_
    exact V_iret hC hr hlk (re_1 hf) (re_2 hf) (hs82 _ _ _) hs82 dX7_wood_223
  · replace hf := (if_pos c74).symm.trans hf
    refine V_ldc (q := 193) (n := (-1000100)) hC (by decide) kX7_wood_c134 dX7_wood_191 rfl ?_
    refine V_aload_n (k := 0) (q := 194) hC 0 rfl dX7_wood_193 rfl ?_
    refine V_getf (T := TX7) (k := 8) (q := 197) hC uX7_wood_7 rfl iD7 rfl (by decide) kX7_wood_f98 rfl dX7_wood_194 rfl ?_
    refine V_isub (q := 198) hC dX7_wood_197 rfl ?_
    exact V_iret hC hr hlk (re_1 hf) (re_2 hf) (Rg_wr _) hs72 dX7_wood_198
set_option maxHeartbeats 4000000 in
set_option maxRecDepth 100000 in
theorem tjX7_wood_158 {p : Program} {l : Launch} {e : Env} {s : State} {m : MethodId} {args : Array Value} {below : List Frame} {meth : Method} {c : Code} {G : GT} (hG : GI G) (hC : CX p s m args c cX7_wood 2 RX7 wsX7_wood G (AA G)) (hr : meth.sig.returnType = (some .int)) (hlk : meth.locks = false) {r0 : Int × Hp} {σ : Hp} (hs : RgS σ) (hf : jX7_wood_158 σ = some r0) : VV p l e (headSpec wsX7_wood rmX7_wood).room s m args below meth c (MQ below (QI G r0.1 r0.2) args s 0 0 (AA G)) G (AA G) 0 0 2 σ 158 [(0, rf G 7 0)] [] := by
  unfold jX7_wood_158 at hf
  refine V_aload_n (k := 0) (q := 159) hC 0 rfl dX7_wood_158 rfl ?_
  refine V_cvi (st := []) (q := 162) hC (sX7_isWell l hG  hs) (cwV 0 hC.2.2.2.2.1 gX7_wood_X7_isWell rfl rfl rfl (by decide +kernel) ⟨Nat.le_of_ble_eq_true rfl, Nat.le_of_ble_eq_true rfl⟩) ⟨_, rfl, rfl⟩ iD7 (fun _ => ⟨_, rfl⟩) rfl rfl (Nat.le_of_ble_eq_true rfl) dX7_wood_159 rfl ⟨Nat.zero_le _, Nat.zero_le _⟩ (fun hr62 _ => ?_)
  refine V_if_eq (tgt := 179) (q := 165) hC hr62 dX7_wood_162 (by decide) rfl (fun c63 => ?_) (fun c63 => ?_)
  · replace hf := (if_pos c63).symm.trans hf
    refine V_lsub [0] rfl ?_
    exact tjX7_wood_179 hG hC hr hlk hs  hf
  · replace hf := (if_neg c63).symm.trans hf
    refine V_aload_n (k := 0) (q := 166) hC 0 rfl dX7_wood_165 rfl ?_
    refine V_getf (T := TX7) (k := 11) (q := 169) hC uX7_wood_7 rfl iD7 rfl (by decide) kX7_wood_f95 rfl dX7_wood_166 rfl ?_
    refine V_if_eq (tgt := 179) (q := 172) hC (hs _ _ _) dX7_wood_169 (by decide) rfl (fun c64 => ?_) (fun c64 => ?_)
    · replace hf := (if_pos c64).symm.trans hf
      refine V_lsub [0] rfl ?_
      exact tjX7_wood_179 hG hC hr hlk hs  hf
    · replace hf := (if_neg c64).symm.trans hf
      refine V_aload_n (k := 0) (q := 173) hC 0 rfl dX7_wood_172 rfl ?_
      refine V_iconst (q := 174) hC dX7_wood_173 rfl ?_
      refine V_iconst (q := 175) hC dX7_wood_174 rfl ?_
      obtain ⟨r65, σ66, hc67, hf⟩ := cl_some hf
      refine V_cvi (st := []) (q := 178) (x0 := r65) (σ0 := σ66) hC (sX7_takes l hG (Rg_c rfl) (Rg_c rfl) hs hc67) (cwV 2 hC.2.2.2.2.1 gX7_wood_X7_takes rfl rfl rfl (by decide +kernel) ⟨Nat.le_of_ble_eq_true rfl, Nat.le_of_ble_eq_true rfl⟩) ⟨_, rfl, rfl⟩ iD7 (fun _ => ⟨_, rfl⟩) rfl rfl (Nat.le_of_ble_eq_true rfl) dX7_wood_175 rfl ⟨Nat.zero_le _, Nat.zero_le _⟩ (fun hr68 hs69 => ?_)
      refine V_pop (q := 179) hC rfl dX7_wood_178 rfl ?_
      refine V_lsub [0] rfl ?_
      exact tjX7_wood_179 hG hC hr hlk hs69  hf
set_option maxHeartbeats 4000000 in
set_option maxRecDepth 100000 in
theorem tlX7_wood_127 {p : Program} {l : Launch} {e : Env} {s : State} {m : MethodId} {args : Array Value} {below : List Frame} {meth : Method} {c : Code} {G : GT} (hG : GI G) (hC : CX p s m args c cX7_wood 2 RX7 wsX7_wood G (AA G)) (hr : meth.sig.returnType = (some .int)) (hlk : meth.locks = false) {r0 : Int × Hp} : ∀ n : Nat, (∀ {σ : Hp} (hs : RgS σ) (hf : lX7_wood_127 n σ = some r0), VV p l e (headSpec wsX7_wood rmX7_wood).room s m args below meth c (MQ below (QI G r0.1 r0.2) args s 0 0 (AA G)) G (AA G) 0 0 2 σ 127 [(0, rf G 7 0)] []) := by
  intro n
  induction n with
  | zero =>
    exact by intro σ hs  hf; exact absurd (show (none : Option (Int × Hp)) = some r0 from hf) (fun z => by cases z)
  | succ n ih =>
    intro σ hs  hf
    replace hf := (lX7_wood_127_e0 n σ).symm.trans hf
    refine V_aload_n (k := 0) (q := 128) hC 0 rfl dX7_wood_127 rfl ?_
    refine V_cvi (st := []) (q := 131) hC (sX7_isWell l hG  hs) (cwV 0 hC.2.2.2.2.1 gX7_wood_X7_isWell rfl rfl rfl (by decide +kernel) ⟨Nat.le_of_ble_eq_true rfl, Nat.le_of_ble_eq_true rfl⟩) ⟨_, rfl, rfl⟩ iD7 (fun _ => ⟨_, rfl⟩) rfl rfl (Nat.le_of_ble_eq_true rfl) dX7_wood_128 rfl ⟨Nat.zero_le _, Nat.zero_le _⟩ (fun hr53 _ => ?_)
    refine V_if_eq (tgt := 158) (q := 134) hC hr53 dX7_wood_131 (by decide) rfl (fun c54 => ?_) (fun c54 => ?_)
    · replace hf := (if_pos c54).symm.trans hf
      refine V_lsub [0] rfl ?_
      exact tjX7_wood_158 hG hC hr hlk hs  hf
    · replace hf := (if_neg c54).symm.trans hf
      refine V_aload_n (k := 0) (q := 135) hC 0 rfl dX7_wood_134 rfl ?_
      refine V_getf (T := TX7) (k := 11) (q := 138) hC uX7_wood_7 rfl iD7 rfl (by decide) kX7_wood_f95 rfl dX7_wood_135 rfl ?_
      refine V_iconst (q := 139) hC dX7_wood_138 rfl ?_
      refine V_icmp_ne (tgt := 158) (q := 142) hC (hs _ _ _) (Rg_c rfl) dX7_wood_139 (by decide) rfl (fun c55 => ?_) (fun c55 => ?_)
      · replace hf := (if_neg c55).symm.trans hf
        refine V_lsub [0] rfl ?_
        exact tjX7_wood_158 hG hC hr hlk hs  hf
      · replace hf := (if_pos c55).symm.trans hf
        refine V_aload_n (k := 0) (q := 143) hC 0 rfl dX7_wood_142 rfl ?_
        refine V_getf (T := TX7) (k := 12) (q := 146) hC uX7_wood_7 rfl iD7 rfl (by decide) kX7_wood_f92 rfl dX7_wood_143 rfl ?_
        refine V_bipush (q := 148) hC (by decide) dX7_wood_146 rfl ?_
        refine V_icmp_ne (tgt := 158) (q := 151) hC (hs _ _ _) (Rg_c rfl) dX7_wood_148 (by decide) rfl (fun c56 => ?_) (fun c56 => ?_)
        · replace hf := (if_neg c56).symm.trans hf
          refine V_lsub [0] rfl ?_
          exact tjX7_wood_158 hG hC hr hlk hs  hf
        · replace hf := (if_pos c56).symm.trans hf
          refine V_aload_n (k := 0) (q := 152) hC 0 rfl dX7_wood_151 rfl ?_
          obtain ⟨r57, σ58, hc59, hf⟩ := cl_some hf
          refine V_cvv (st := []) (q := 155) (σ0 := σ58) hC (sX7_readsCut l hG  hs hc59) (cwV 0 hC.2.2.2.2.1 gX7_wood_X7_readsCut rfl rfl rfl (by decide +kernel) ⟨Nat.le_of_ble_eq_true rfl, Nat.le_of_ble_eq_true rfl⟩) ⟨_, rfl, rfl⟩ iD7 (fun _ => ⟨_, rfl⟩) rfl rfl (Nat.le_of_ble_eq_true rfl) dX7_wood_152 rfl ⟨Nat.zero_le _, Nat.zero_le _⟩ (fun hs61 => ?_)
          refine V_goto (tgt := 127) hC dX7_wood_155 (by decide) ?_
          refine V_lsub [0] rfl ?_
          exact ih hs61  hf
set_option maxHeartbeats 4000000 in
set_option maxRecDepth 100000 in
theorem tlX7_wood_95 {p : Program} {l : Launch} {e : Env} {s : State} {m : MethodId} {args : Array Value} {below : List Frame} {meth : Method} {c : Code} {G : GT} (hG : GI G) (hC : CX p s m args c cX7_wood 2 RX7 wsX7_wood G (AA G)) (hr : meth.sig.returnType = (some .int)) (hlk : meth.locks = false) {r0 : Int × Hp} : ∀ n : Nat, (∀ {σ : Hp} (hs : RgS σ) (hf : lX7_wood_95 n σ = some r0), VV p l e (headSpec wsX7_wood rmX7_wood).room s m args below meth c (MQ below (QI G r0.1 r0.2) args s 0 0 (AA G)) G (AA G) 0 0 2 σ 95 [(0, rf G 7 0)] []) := by
  intro n
  induction n with
  | zero =>
    exact by intro σ hs  hf; exact absurd (show (none : Option (Int × Hp)) = some r0 from hf) (fun z => by cases z)
  | succ n ih =>
    intro σ hs  hf
    replace hf := (lX7_wood_95_e0 n σ).symm.trans hf
    refine V_aload_n (k := 0) (q := 96) hC 0 rfl dX7_wood_95 rfl ?_
    refine V_cvi (st := []) (q := 99) hC (sX7_isWell l hG  hs) (cwV 0 hC.2.2.2.2.1 gX7_wood_X7_isWell rfl rfl rfl (by decide +kernel) ⟨Nat.le_of_ble_eq_true rfl, Nat.le_of_ble_eq_true rfl⟩) ⟨_, rfl, rfl⟩ iD7 (fun _ => ⟨_, rfl⟩) rfl rfl (Nat.le_of_ble_eq_true rfl) dX7_wood_96 rfl ⟨Nat.zero_le _, Nat.zero_le _⟩ (fun hr43 _ => ?_)
    refine V_if_eq (tgt := 127) (q := 102) hC hr43 dX7_wood_99 (by decide) rfl (fun c44 => ?_) (fun c44 => ?_)
    · replace hf := (if_pos c44).symm.trans hf
      refine V_lsub [0] rfl ?_
      exact (tlX7_wood_127 hG hC hr hlk FU) hs  hf
    · replace hf := (if_neg c44).symm.trans hf
      refine V_aload_n (k := 0) (q := 103) hC 0 rfl dX7_wood_102 rfl ?_
      refine V_getf (T := TX7) (k := 11) (q := 106) hC uX7_wood_7 rfl iD7 rfl (by decide) kX7_wood_f95 rfl dX7_wood_103 rfl ?_
      refine V_iconst (q := 107) hC dX7_wood_106 rfl ?_
      refine V_icmp_ne (tgt := 127) (q := 110) hC (hs _ _ _) (Rg_c rfl) dX7_wood_107 (by decide) rfl (fun c45 => ?_) (fun c45 => ?_)
      · replace hf := (if_neg c45).symm.trans hf
        refine V_lsub [0] rfl ?_
        exact (tlX7_wood_127 hG hC hr hlk FU) hs  hf
      · replace hf := (if_pos c45).symm.trans hf
        refine V_aload_n (k := 0) (q := 111) hC 0 rfl dX7_wood_110 rfl ?_
        refine V_getf (T := TX7) (k := 12) (q := 114) hC uX7_wood_7 rfl iD7 rfl (by decide) kX7_wood_f92 rfl dX7_wood_111 rfl ?_
        refine V_csi (st := []) (q := 117) hC (sX7_kindOf l hG (hs _ _ _) hs) (va_cwS 1 hC.2.2.2.2.1 gX7_wood_X7_kindOf rfl rfl rfl (by decide +kernel) ⟨Nat.le_of_ble_eq_true rfl, Nat.le_of_ble_eq_true rfl⟩) rfl rfl (Nat.le_of_ble_eq_true rfl) dX7_wood_114 rfl ⟨Nat.zero_le _, Nat.zero_le _⟩ (fun hr46 _ => ?_)
        refine V_if_le (tgt := 127) (q := 120) hC hr46 dX7_wood_117 (by decide) rfl (fun c47 => ?_) (fun c47 => ?_)
        · replace hf := (if_pos c47).symm.trans hf
          refine V_lsub [0] rfl ?_
          exact (tlX7_wood_127 hG hC hr hlk FU) hs  hf
        · replace hf := (if_neg c47).symm.trans hf
          refine V_aload_n (k := 0) (q := 121) hC 0 rfl dX7_wood_120 rfl ?_
          obtain ⟨r48, σ49, hc50, hf⟩ := cl_some hf
          refine V_cvv (st := []) (q := 124) (σ0 := σ49) hC (sX7_readsTree l hG  hs hc50) (cwV 0 hC.2.2.2.2.1 gX7_wood_X7_readsTree rfl rfl rfl (by decide +kernel) ⟨Nat.le_of_ble_eq_true rfl, Nat.le_of_ble_eq_true rfl⟩) ⟨_, rfl, rfl⟩ iD7 (fun _ => ⟨_, rfl⟩) rfl rfl (Nat.le_of_ble_eq_true rfl) dX7_wood_121 rfl ⟨Nat.zero_le _, Nat.zero_le _⟩ (fun hs52 => ?_)
          refine V_goto (tgt := 95) hC dX7_wood_124 (by decide) ?_
          refine V_lsub [0] rfl ?_
          exact ih hs52  hf
set_option maxHeartbeats 4000000 in
set_option maxRecDepth 100000 in
theorem tjX7_wood_58 {p : Program} {l : Launch} {e : Env} {s : State} {m : MethodId} {args : Array Value} {below : List Frame} {meth : Method} {c : Code} {G : GT} (hG : GI G) (hC : CX p s m args c cX7_wood 2 RX7 wsX7_wood G (AA G)) (hr : meth.sig.returnType = (some .int)) (hlk : meth.locks = false) {r0 : Int × Hp} {σ : Hp} (hs : RgS σ) {w0 : Int} (hw0 : Rg w0) (hf : jX7_wood_58 σ w0 = some r0) : VV p l e (headSpec wsX7_wood rmX7_wood).room s m args below meth c (MQ below (QI G r0.1 r0.2) args s 0 0 (AA G)) G (AA G) 0 0 2 σ 58 [(0, rf G 7 0)] [iv w0, rf G 7 0] := by
  unfold jX7_wood_58 at hf
  refine V_iconst (q := 59) hC dX7_wood_58 rfl ?_
  obtain ⟨r19, σ20, hc21, hf⟩ := cl_some hf
  refine V_cvi (st := []) (q := 62) (x0 := r19) (σ0 := σ20) hC (sX7_takes l hG hw0 (Rg_c rfl) hs hc21) (cwV 2 hC.2.2.2.2.1 gX7_wood_X7_takes rfl rfl rfl (by decide +kernel) ⟨Nat.le_of_ble_eq_true rfl, Nat.le_of_ble_eq_true rfl⟩) ⟨_, rfl, rfl⟩ iD7 (fun _ => ⟨_, rfl⟩) rfl rfl (Nat.le_of_ble_eq_true rfl) dX7_wood_59 rfl ⟨Nat.zero_le _, Nat.zero_le _⟩ (fun hr22 hs23 => ?_)
  refine V_pop (q := 63) hC rfl dX7_wood_62 rfl ?_
  refine V_aload_n (k := 0) (q := 64) hC 0 rfl dX7_wood_63 rfl ?_
  refine V_getf (T := TX7) (k := 14) (q := 67) hC uX7_wood_7 rfl iD7 rfl (by decide) kX7_wood_f28 rfl dX7_wood_64 rfl ?_
  refine V_iconst (q := 68) hC dX7_wood_67 rfl ?_
  refine V_aload_n (k := 0) (q := 69) hC 0 rfl dX7_wood_68 rfl ?_
  refine V_iconst (q := 70) hC dX7_wood_69 rfl ?_
  refine V_bipush (q := 72) hC (by decide) dX7_wood_70 rfl ?_
  obtain ⟨r24, σ25, hc26, hf⟩ := cl_some hf
  refine V_cvi (st := [iv 0, rf G 28 0]) (q := 75) (x0 := r24) (σ0 := σ25) hC (sX7_figure l hG (Rg_c rfl) (Rg_c rfl) hs23 hc26) (cwV 2 hC.2.2.2.2.1 gX7_wood_X7_figure rfl rfl rfl (by decide +kernel) ⟨Nat.le_of_ble_eq_true rfl, Nat.le_of_ble_eq_true rfl⟩) ⟨_, rfl, rfl⟩ iD7 (fun _ => ⟨_, rfl⟩) rfl rfl (Nat.le_of_ble_eq_true rfl) dX7_wood_72 rfl ⟨Nat.zero_le _, Nat.zero_le _⟩ (fun hr27 hs28 => ?_)
  obtain ⟨σ29, e30, hf⟩ := sq_ex hf
  have hs31 : RgS σ29 := by rw [e30]; exact RgS_hup hs28 hr27
  refine V_iast (n := 48) (q := 76) hC iD28 rfl ⟨by decide, by decide⟩ (Rg_c rfl) e30 dX7_wood_75 rfl ?_
  refine V_aload_n (k := 0) (q := 77) hC 0 rfl dX7_wood_76 rfl ?_
  refine V_aload_n (k := 0) (q := 78) hC 0 rfl dX7_wood_77 rfl ?_
  refine V_getf (T := TX7) (k := 11) (q := 81) hC uX7_wood_7 rfl iD7 rfl (by decide) kX7_wood_f95 rfl dX7_wood_78 rfl ?_
  refine V_iconst (q := 82) hC dX7_wood_81 rfl ?_
  refine V_icmp_ne (tgt := 89) (q := 85) hC (hs31 _ _ _) (Rg_c rfl) dX7_wood_82 (by decide) rfl (fun c32 => ?_) (fun c32 => ?_)
  · replace hf := (if_neg c32).symm.trans hf
    refine V_iconst (q := 90) hC dX7_wood_89 rfl ?_
    refine V_iconst (q := 91) hC dX7_wood_90 rfl ?_
    obtain ⟨r33, σ34, hc35, hf⟩ := cl_some hf
    refine V_cvi (st := []) (q := 94) (x0 := r33) (σ0 := σ34) hC (sX7_takes l hG (Rg_c rfl) (Rg_c rfl) hs31 hc35) (cwV 2 hC.2.2.2.2.1 gX7_wood_X7_takes rfl rfl rfl (by decide +kernel) ⟨Nat.le_of_ble_eq_true rfl, Nat.le_of_ble_eq_true rfl⟩) ⟨_, rfl, rfl⟩ iD7 (fun _ => ⟨_, rfl⟩) rfl rfl (Nat.le_of_ble_eq_true rfl) dX7_wood_91 rfl ⟨Nat.zero_le _, Nat.zero_le _⟩ (fun hr36 hs37 => ?_)
    refine V_pop (q := 95) hC rfl dX7_wood_94 rfl ?_
    refine V_lsub [0] rfl ?_
    exact (tlX7_wood_95 hG hC hr hlk FU) hs37  hf
  · replace hf := (if_pos c32).symm.trans hf
    refine V_iconst (q := 86) hC dX7_wood_85 rfl ?_
    refine V_goto (tgt := 90) hC dX7_wood_86 (by decide) ?_
    refine V_iconst (q := 91) hC dX7_wood_90 rfl ?_
    obtain ⟨r38, σ39, hc40, hf⟩ := cl_some hf
    refine V_cvi (st := []) (q := 94) (x0 := r38) (σ0 := σ39) hC (sX7_takes l hG (Rg_c rfl) (Rg_c rfl) hs31 hc40) (cwV 2 hC.2.2.2.2.1 gX7_wood_X7_takes rfl rfl rfl (by decide +kernel) ⟨Nat.le_of_ble_eq_true rfl, Nat.le_of_ble_eq_true rfl⟩) ⟨_, rfl, rfl⟩ iD7 (fun _ => ⟨_, rfl⟩) rfl rfl (Nat.le_of_ble_eq_true rfl) dX7_wood_91 rfl ⟨Nat.zero_le _, Nat.zero_le _⟩ (fun hr41 hs42 => ?_)
    refine V_pop (q := 95) hC rfl dX7_wood_94 rfl ?_
    refine V_lsub [0] rfl ?_
    exact (tlX7_wood_95 hG hC hr hlk FU) hs42  hf
set_option maxHeartbeats 4000000 in
set_option maxRecDepth 100000 in
theorem tlX7_wood_2 {p : Program} {l : Launch} {e : Env} {s : State} {m : MethodId} {args : Array Value} {below : List Frame} {meth : Method} {c : Code} {G : GT} (hG : GI G) (hC : CX p s m args c cX7_wood 2 RX7 wsX7_wood G (AA G)) (hr : meth.sig.returnType = (some .int)) (hlk : meth.locks = false) {r0 : Int × Hp} : ∀ n : Nat, (∀ {σ : Hp} (hs : RgS σ) {v1 : Int} (h1 : Rg v1) (hf : lX7_wood_2 n σ v1 = some r0), VV p l e (headSpec wsX7_wood rmX7_wood).room s m args below meth c (MQ below (QI G r0.1 r0.2) args s 0 0 (AA G)) G (AA G) 0 0 2 σ 2 [(0, rf G 7 0), (1, iv v1)] []) := by
  intro n
  induction n with
  | zero =>
    exact by intro σ hs v1 h1 hf; exact absurd (show (none : Option (Int × Hp)) = some r0 from hf) (fun z => by cases z)
  | succ n ih =>
    intro σ hs v1 h1 hf
    replace hf := (lX7_wood_2_e0 n σ v1).symm.trans hf
    refine V_iload_n (k := 1) (q := 3) hC 1 rfl dX7_wood_2 rfl ?_
    refine V_bipush (q := 5) hC (by decide) dX7_wood_3 rfl ?_
    refine V_icmp_ge (tgt := 21) (q := 8) hC h1 (Rg_c rfl) dX7_wood_5 (by decide) rfl (fun c1 => ?_) (fun c1 => ?_)
    · replace hf := (if_pos c1).symm.trans hf
      refine V_aload_n (k := 0) (q := 22) hC 0 rfl dX7_wood_21 rfl ?_
      refine V_iconst (q := 23) hC dX7_wood_22 rfl ?_
      obtain ⟨σ2, e3, hf⟩ := sq_ex hf
      have hs4 : RgS σ2 := by rw [e3]; exact RgS_hup hs (Rg_c rfl)
      refine V_putf (T := TX7) (k := 9) (ty := .int) (q := 26) hC uX7_wood_7 rfl tyX7 tyX7_ok nmX7 iD7 rfl (pf_7_9 _ _ _ _ rfl) (by decide) kX7_wood_f83 rfl (by decide +kernel) rfl rfl (Nat.le_of_ble_eq_true rfl) e3 dX7_wood_23 rfl ?_
      refine V_aload_n (k := 0) (q := 27) hC 0 rfl dX7_wood_26 rfl ?_
      refine V_iconst (q := 28) hC dX7_wood_27 rfl ?_
      obtain ⟨σ5, e6, hf⟩ := sq_ex hf
      have hs7 : RgS σ5 := by rw [e6]; exact RgS_hup hs4 (Rg_c rfl)
      refine V_putf (T := TX7) (k := 8) (ty := .int) (q := 31) hC uX7_wood_7 rfl tyX7 tyX7_ok nmX7 iD7 rfl (pf_7_8 _ _ _ _ rfl) (by decide) kX7_wood_f98 rfl (by decide +kernel) rfl rfl (Nat.le_of_ble_eq_true rfl) e6 dX7_wood_28 rfl ?_
      refine V_aload_n (k := 0) (q := 32) hC 0 rfl dX7_wood_31 rfl ?_
      obtain ⟨r8, σ9, hc10, hf⟩ := cl_some hf
      refine V_cvv (st := []) (q := 35) (σ0 := σ9) hC (sX7_advances l hG  hs7 hc10) (cwV 0 hC.2.2.2.2.1 gX7_wood_X7_advances rfl rfl rfl (by decide +kernel) ⟨Nat.le_of_ble_eq_true rfl, Nat.le_of_ble_eq_true rfl⟩) ⟨_, rfl, rfl⟩ iD7 (fun _ => ⟨_, rfl⟩) rfl rfl (Nat.le_of_ble_eq_true rfl) dX7_wood_32 rfl ⟨Nat.zero_le _, Nat.zero_le _⟩ (fun hs12 => ?_)
      refine V_aload_n (k := 0) (q := 36) hC 0 rfl dX7_wood_35 rfl ?_
      refine V_aload_n (k := 0) (q := 37) hC 0 rfl dX7_wood_36 rfl ?_
      refine V_getf (T := TX7) (k := 11) (q := 40) hC uX7_wood_7 rfl iD7 rfl (by decide) kX7_wood_f95 rfl dX7_wood_37 rfl ?_
      refine V_iconst (q := 41) hC dX7_wood_40 rfl ?_
      refine V_icmp_ne (tgt := 57) (q := 44) hC (hs12 _ _ _) (Rg_c rfl) dX7_wood_41 (by decide) rfl (fun c13 => ?_) (fun c13 => ?_)
      · replace hf := (if_neg c13).symm.trans hf
        refine V_iconst (q := 58) hC dX7_wood_57 rfl ?_
        refine V_lsub [0] rfl ?_
        exact tjX7_wood_58 hG hC hr hlk hs12 (Rg_c rfl) hf
      · replace hf := (if_pos c13).symm.trans hf
        refine V_aload_n (k := 0) (q := 45) hC 0 rfl dX7_wood_44 rfl ?_
        refine V_getf (T := TX7) (k := 12) (q := 48) hC uX7_wood_7 rfl iD7 rfl (by decide) kX7_wood_f92 rfl dX7_wood_45 rfl ?_
        refine V_bipush (q := 50) hC (by decide) dX7_wood_48 rfl ?_
        refine V_icmp_ne (tgt := 57) (q := 53) hC (hs12 _ _ _) (Rg_c rfl) dX7_wood_50 (by decide) rfl (fun c14 => ?_) (fun c14 => ?_)
        · replace hf := (if_neg c14).symm.trans hf
          refine V_iconst (q := 58) hC dX7_wood_57 rfl ?_
          refine V_lsub [0] rfl ?_
          exact tjX7_wood_58 hG hC hr hlk hs12 (Rg_c rfl) hf
        · replace hf := (if_pos c14).symm.trans hf
          refine V_iconst (q := 54) hC dX7_wood_53 rfl ?_
          refine V_goto (tgt := 58) hC dX7_wood_54 (by decide) ?_
          refine V_lsub [0] rfl ?_
          exact tjX7_wood_58 hG hC hr hlk hs12 (Rg_c rfl) hf
    · replace hf := (if_neg c1).symm.trans hf
      refine V_aload_n (k := 0) (q := 9) hC 0 rfl dX7_wood_8 rfl ?_
      refine V_getf (T := TX7) (k := 14) (q := 12) hC uX7_wood_7 rfl iD7 rfl (by decide) kX7_wood_f28 rfl dX7_wood_9 rfl ?_
      refine V_iload_n (k := 1) (q := 13) hC 1 rfl dX7_wood_12 rfl ?_
      refine V_iconst (q := 14) hC dX7_wood_13 rfl ?_
      obtain ⟨g15, hf⟩ := gd_some hf
      obtain ⟨σ16, e17, hf⟩ := sq_ex hf
      have hs18 : RgS σ16 := by rw [e17]; exact RgS_hup hs (Rg_c rfl)
      refine V_iast (n := 48) (q := 15) hC iD28 rfl g15 h1 e17 dX7_wood_14 rfl ?_
      refine V_iinc (i := 1) (lv' := [(0, rf G 7 0), (1, iv (wr (v1 + 1)))]) (q := 18) hC 1 rfl [1, 0] (by decide) rfl dX7_wood_15 rfl ?_
      refine V_goto (tgt := 2) hC dX7_wood_18 (by decide) ?_
      refine V_lsub [0, 1] rfl ?_
      exact ih hs18 (Rg_wr _) hf
set_option maxHeartbeats 4000000 in
set_option maxRecDepth 100000 in
theorem sX7_wood (l : Launch) {G : GT} (hG : GI G) {σ : Hp} (hs : RgS σ) {r0 : Int × Hp} (hf : fX7_wood σ = some r0) : Cti l G yX7_wood wsX7_wood rmX7_wood [rf G 7 0] σ r0.1 r0.2 := by
  unfold fX7_wood at hf
  refine Cti_start (lv := [(0, rf G 7 0)]) (ret := (some .int)) (by decide +kernel) rfl hG (Nat.le_of_ble_eq_true rfl) rfl (fun p e s m args below meth c hC hr hlk => ?_)
  refine V_iconst (q := 1) hC dX7_wood_0 rfl ?_
  refine V_istore_n (k := 1) (i := 1) (lv' := [(0, rf G 7 0), (1, iv 0)]) (q := 2) hC [1, 0] rfl (by decide) rfl dX7_wood_1 rfl ?_
  refine V_lsub [0, 1] rfl ?_
  exact (tlX7_wood_2 hG hC hr hlk FU) hs (Rg_c rfl) hf
/-! X7_fault -/
theorem kX7_fault_f105 : Cond.fieldLink RX7 105 "BarkNamesModel" "faultKind" "I" ∈ wsX7_fault := by decide +kernel
theorem uX7_fault_7 : ∀ w ∈ u_ws RX7 TX7 22, w ∈ wsX7_fault := by decide +kernel
abbrev rmX7_fault : Room := { frames := 0, cells := 0, slots := 0, locals := 0 }
set_option maxHeartbeats 4000000 in
set_option maxRecDepth 100000 in
theorem sX7_fault (l : Launch) {G : GT} (hG : GI G) {σ : Hp} (hs : RgS σ) : Cti l G yX7_fault wsX7_fault rmX7_fault [rf G 7 0] σ (fX7_fault σ) σ := by
  obtain ⟨x0, hf⟩ : ∃ x, fX7_fault σ = x := ⟨_, rfl⟩
  rw [hf]
  unfold fX7_fault at hf
  refine Cti_start (lv := [(0, rf G 7 0)]) (ret := (some .int)) (by decide +kernel) rfl hG (Nat.le_of_ble_eq_true rfl) rfl (fun p e s m args below meth c hC hr hlk => ?_)
  refine V_aload_n (k := 0) (q := 1) hC 0 rfl dX7_fault_0 rfl ?_
  refine V_getf (T := TX7) (k := 7) (q := 4) hC uX7_fault_7 rfl iD7 rfl (by decide) kX7_fault_f105 rfl dX7_fault_1 rfl ?_
  exact V_iret hC hr hlk hf rfl (hs _ _ _) hs dX7_fault_4
/-! X7_isWood -/
theorem kX7_isWood_f25 : Cond.fieldLink RX7 25 "BarkNamesModel" "now" "[I" ∈ wsX7_isWood := by decide +kernel
theorem uX7_isWood_7 : ∀ w ∈ u_ws RX7 TX7 22, w ∈ wsX7_isWood := by decide +kernel
abbrev rmX7_isWood : Room := { frames := 0, cells := 0, slots := 0, locals := 0 }
set_option maxHeartbeats 4000000 in
set_option maxRecDepth 100000 in
theorem sX7_isWood (l : Launch) {G : GT} (hG : GI G) {σ : Hp} (hs : RgS σ) : Cti l G yX7_isWood wsX7_isWood rmX7_isWood [rf G 7 0] σ (fX7_isWood σ) σ := by
  obtain ⟨x0, hf⟩ : ∃ x, fX7_isWood σ = x := ⟨_, rfl⟩
  rw [hf]
  unfold fX7_isWood at hf
  refine Cti_start (lv := [(0, rf G 7 0)]) (ret := (some .boolean)) (by decide +kernel) rfl hG (Nat.le_of_ble_eq_true rfl) rfl (fun p e s m args below meth c hC hr hlk => ?_)
  refine V_aload_n (k := 0) (q := 1) hC 0 rfl dX7_isWood_0 rfl ?_
  refine V_getf (T := TX7) (k := 13) (q := 4) hC uX7_isWood_7 rfl iD7 rfl (by decide) kX7_isWood_f25 rfl dX7_isWood_1 rfl ?_
  refine V_iconst (q := 5) hC dX7_isWood_4 rfl ?_
  refine V_iald (n := 48) (q := 6) hC iD27 rfl ⟨by decide, by decide⟩ (Rg_c rfl) dX7_isWood_5 rfl ?_
  refine V_if_le (tgt := 13) (q := 9) hC (hs _ _ _) dX7_isWood_6 (by decide) rfl (fun c1 => ?_) (fun c1 => ?_)
  · replace hf := (if_pos c1).symm.trans hf
    refine V_iconst (q := 14) hC dX7_isWood_13 rfl ?_
    exact V_zret hC hr hlk (Or.inl rfl) hf rfl hs dX7_isWood_14
  · replace hf := (if_neg c1).symm.trans hf
    refine V_iconst (q := 10) hC dX7_isWood_9 rfl ?_
    refine V_goto (tgt := 14) hC dX7_isWood_10 (by decide) ?_
    exact V_zret hC hr hlk (Or.inr rfl) hf rfl hs dX7_isWood_14
/-! X7_isTree -/
theorem kX7_isTree_f25 : Cond.fieldLink RX7 25 "BarkNamesModel" "now" "[I" ∈ wsX7_isTree := by decide +kernel
theorem uX7_isTree_7 : ∀ w ∈ u_ws RX7 TX7 22, w ∈ wsX7_isTree := by decide +kernel
abbrev rmX7_isTree : Room := { frames := 1, cells := 0, slots := 0, locals := 22 }
set_option maxHeartbeats 4000000 in
set_option maxRecDepth 100000 in
theorem sX7_isTree (l : Launch) {G : GT} (hG : GI G) {v1 : Int} (h1 : Rg v1) {σ : Hp} (hs : RgS σ) : Cti l G yX7_isTree wsX7_isTree rmX7_isTree [rf G 7 0, iv v1] σ (fX7_isTree σ v1) σ := by
  obtain ⟨x0, hf⟩ : ∃ x, fX7_isTree σ v1 = x := ⟨_, rfl⟩
  rw [hf]
  unfold fX7_isTree at hf
  refine Cti_start (lv := [(0, rf G 7 0), (1, iv v1)]) (ret := (some .boolean)) (by decide +kernel) rfl hG (Nat.le_of_ble_eq_true rfl) rfl (fun p e s m args below meth c hC hr hlk => ?_)
  refine V_iload_n (k := 1) (q := 1) hC 1 rfl dX7_isTree_0 rfl ?_
  refine V_iconst (q := 2) hC dX7_isTree_1 rfl ?_
  refine V_aload_n (k := 0) (q := 3) hC 0 rfl dX7_isTree_2 rfl ?_
  refine V_getf (T := TX7) (k := 13) (q := 6) hC uX7_isTree_7 rfl iD7 rfl (by decide) kX7_isTree_f25 rfl dX7_isTree_3 rfl ?_
  refine V_iconst (q := 7) hC dX7_isTree_6 rfl ?_
  refine V_iald (n := 48) (q := 8) hC iD27 rfl ⟨by decide, by decide⟩ (Rg_c rfl) dX7_isTree_7 rfl ?_
  refine V_iconst (q := 9) hC dX7_isTree_8 rfl ?_
  refine V_isub (q := 10) hC dX7_isTree_9 rfl ?_
  refine V_csi (st := []) (q := 13) hC (sX7_in l hG h1 (Rg_c rfl) (Rg_wr _) hs) (va_cwS 3 hC.2.2.2.2.1 gX7_isTree_X7_in rfl rfl rfl (by decide +kernel) ⟨Nat.le_of_ble_eq_true rfl, Nat.le_of_ble_eq_true rfl⟩) rfl rfl (Nat.le_of_ble_eq_true rfl) dX7_isTree_10 rfl ⟨Nat.zero_le _, Nat.zero_le _⟩ (fun hr1 _ => ?_)
  exact V_zret hC hr hlk (zX7_in _ _ _) hf rfl hs dX7_isTree_13
/-! X7_isCut -/
theorem kX7_isCut_f25 : Cond.fieldLink RX7 25 "BarkNamesModel" "now" "[I" ∈ wsX7_isCut := by decide +kernel
theorem uX7_isCut_7 : ∀ w ∈ u_ws RX7 TX7 22, w ∈ wsX7_isCut := by decide +kernel
abbrev rmX7_isCut : Room := { frames := 1, cells := 0, slots := 0, locals := 22 }
set_option maxHeartbeats 4000000 in
set_option maxRecDepth 100000 in
theorem sX7_isCut (l : Launch) {G : GT} (hG : GI G) {v1 : Int} (h1 : Rg v1) {σ : Hp} (hs : RgS σ) : Cti l G yX7_isCut wsX7_isCut rmX7_isCut [rf G 7 0, iv v1] σ (fX7_isCut σ v1) σ := by
  obtain ⟨x0, hf⟩ : ∃ x, fX7_isCut σ v1 = x := ⟨_, rfl⟩
  rw [hf]
  unfold fX7_isCut at hf
  refine Cti_start (lv := [(0, rf G 7 0), (1, iv v1)]) (ret := (some .boolean)) (by decide +kernel) rfl hG (Nat.le_of_ble_eq_true rfl) rfl (fun p e s m args below meth c hC hr hlk => ?_)
  refine V_iload_n (k := 1) (q := 1) hC 1 rfl dX7_isCut_0 rfl ?_
  refine V_iconst (q := 2) hC dX7_isCut_1 rfl ?_
  refine V_aload_n (k := 0) (q := 3) hC 0 rfl dX7_isCut_2 rfl ?_
  refine V_getf (T := TX7) (k := 13) (q := 6) hC uX7_isCut_7 rfl iD7 rfl (by decide) kX7_isCut_f25 rfl dX7_isCut_3 rfl ?_
  refine V_iconst (q := 7) hC dX7_isCut_6 rfl ?_
  refine V_iald (n := 48) (q := 8) hC iD27 rfl ⟨by decide, by decide⟩ (Rg_c rfl) dX7_isCut_7 rfl ?_
  refine V_iconst (q := 9) hC dX7_isCut_8 rfl ?_
  refine V_isub (q := 10) hC dX7_isCut_9 rfl ?_
  refine V_csi (st := []) (q := 13) hC (sX7_in l hG h1 (Rg_c rfl) (Rg_wr _) hs) (va_cwS 3 hC.2.2.2.2.1 gX7_isCut_X7_in rfl rfl rfl (by decide +kernel) ⟨Nat.le_of_ble_eq_true rfl, Nat.le_of_ble_eq_true rfl⟩) rfl rfl (Nat.le_of_ble_eq_true rfl) dX7_isCut_10 rfl ⟨Nat.zero_le _, Nat.zero_le _⟩ (fun hr1 _ => ?_)
  exact V_zret hC hr hlk (zX7_in _ _ _) hf rfl hs dX7_isCut_13
/-! X7_isFar -/
abbrev rmX7_isFar : Room := { frames := 1, cells := 0, slots := 0, locals := 22 }
set_option maxHeartbeats 4000000 in
set_option maxRecDepth 100000 in
theorem sX7_isFar (l : Launch) {G : GT} (hG : GI G) {v0 : Int} (h0 : Rg v0) {σ : Hp} (hs : RgS σ) : Cti l G yX7_isFar wsX7_isFar rmX7_isFar [iv v0] σ (fX7_isFar v0) σ := by
  obtain ⟨x0, hf⟩ : ∃ x, fX7_isFar v0 = x := ⟨_, rfl⟩
  rw [hf]
  unfold fX7_isFar at hf
  refine Cti_start (lv := [(0, iv v0)]) (ret := (some .boolean)) (by decide +kernel) rfl hG (Nat.le_of_ble_eq_true rfl) rfl (fun p e s m args below meth c hC hr hlk => ?_)
  refine V_iload_n (k := 0) (q := 1) hC 0 rfl dX7_isFar_0 rfl ?_
  refine V_iconst (q := 2) hC dX7_isFar_1 rfl ?_
  refine V_bipush (q := 4) hC (by decide) dX7_isFar_2 rfl ?_
  refine V_csi (st := []) (q := 7) hC (sX7_in l hG h0 (Rg_c rfl) (Rg_c rfl) hs) (va_cwS 3 hC.2.2.2.2.1 gX7_isFar_X7_in rfl rfl rfl (by decide +kernel) ⟨Nat.le_of_ble_eq_true rfl, Nat.le_of_ble_eq_true rfl⟩) rfl rfl (Nat.le_of_ble_eq_true rfl) dX7_isFar_4 rfl ⟨Nat.zero_le _, Nat.zero_le _⟩ (fun hr1 _ => ?_)
  exact V_zret hC hr hlk (zX7_in _ _ _) hf rfl hs dX7_isFar_7
/-! X7_ruled -/
abbrev rmX7_ruled : Room := { frames := 0, cells := 0, slots := 0, locals := 0 }
set_option maxHeartbeats 4000000 in
set_option maxRecDepth 100000 in
theorem sX7_ruled (l : Launch) {G : GT} (hG : GI G) {v0 : Int} {v1 : Int} {v2 : Int} (h0 : Rg v0) (h1 : Rg v1) (h2 : Rg v2) {σ : Hp} (hs : RgS σ) : Cti l G yX7_ruled wsX7_ruled rmX7_ruled [iv v0, iv v1, iv v2] σ (fX7_ruled v0 v1 v2) σ := by
  obtain ⟨x0, hf⟩ : ∃ x, fX7_ruled v0 v1 v2 = x := ⟨_, rfl⟩
  rw [hf]
  unfold fX7_ruled at hf
  refine Cti_start (lv := [(0, iv v0), (1, iv v1), (2, iv v2)]) (ret := (some .int)) (by decide +kernel) rfl hG (Nat.le_of_ble_eq_true rfl) rfl (fun p e s m args below meth c hC hr hlk => ?_)
  refine V_iload_n (k := 0) (q := 1) hC 0 rfl dX7_ruled_0 rfl ?_
  by_cases c1 : v0 = 1
  · replace hf := (if_pos c1).symm.trans hf
    refine V_tabIn (tgt := 32) hC h0 dX7_ruled_1 (by omega) (by omega) (by rw [c1]; rfl) (by decide) ?_
    refine V_iconst (q := 33) hC dX7_ruled_32 rfl ?_
    refine V_iload_n (k := 1) (q := 34) hC 1 rfl dX7_ruled_33 rfl ?_
    refine V_iconst (q := 35) hC dX7_ruled_34 rfl ?_
    refine V_idiv (q := 36) hC h1 (Rg_c rfl) (by decide) dX7_ruled_35 rfl ?_
    refine V_iadd (q := 37) hC dX7_ruled_36 rfl ?_
    exact V_iret hC hr hlk hf rfl (Rg_wr _) hs dX7_ruled_37
  · replace hf := (if_neg c1).symm.trans hf
    by_cases c2 : v0 = 2
    · replace hf := (if_pos c2).symm.trans hf
      refine V_tabIn (tgt := 38) hC h0 dX7_ruled_1 (by omega) (by omega) (by rw [c2]; rfl) (by decide) ?_
      refine V_iconst (q := 39) hC dX7_ruled_38 rfl ?_
      refine V_iload_n (k := 1) (q := 40) hC 1 rfl dX7_ruled_39 rfl ?_
      refine V_iconst (q := 41) hC dX7_ruled_40 rfl ?_
      refine V_idiv (q := 42) hC h1 (Rg_c rfl) (by decide) dX7_ruled_41 rfl ?_
      refine V_iadd (q := 43) hC dX7_ruled_42 rfl ?_
      refine V_iconst (q := 44) hC dX7_ruled_43 rfl ?_
      refine V_idiv (q := 45) hC (Rg_wr _) (Rg_c rfl) (by decide) dX7_ruled_44 rfl ?_
      exact V_iret hC hr hlk hf rfl (Rg_qdiv _ _) hs dX7_ruled_45
    · replace hf := (if_neg c2).symm.trans hf
      by_cases c3 : v0 = 3
      · replace hf := (if_pos c3).symm.trans hf
        refine V_tabIn (tgt := 46) hC h0 dX7_ruled_1 (by omega) (by omega) (by rw [c3]; rfl) (by decide) ?_
        refine V_iload_n (k := 2) (q := 47) hC 2 rfl dX7_ruled_46 rfl ?_
        refine V_iconst (q := 48) hC dX7_ruled_47 rfl ?_
        refine V_irem (q := 49) hC h2 (Rg_c rfl) (by decide) dX7_ruled_48 rfl ?_
        refine V_if_ne (tgt := 60) (q := 52) hC (Rg_qrem _ _) dX7_ruled_49 (by decide) rfl (fun c4 => ?_) (fun c4 => ?_)
        · replace hf := (if_neg c4).symm.trans hf
          refine V_iconst (q := 61) hC dX7_ruled_60 rfl ?_
          refine V_iload_n (k := 1) (q := 62) hC 1 rfl dX7_ruled_61 rfl ?_
          refine V_iconst (q := 63) hC dX7_ruled_62 rfl ?_
          refine V_idiv (q := 64) hC h1 (Rg_c rfl) (by decide) dX7_ruled_63 rfl ?_
          refine V_iadd (q := 65) hC dX7_ruled_64 rfl ?_
          exact V_iret hC hr hlk hf rfl (Rg_wr _) hs dX7_ruled_65
        · replace hf := (if_pos c4).symm.trans hf
          refine V_iconst (q := 53) hC dX7_ruled_52 rfl ?_
          refine V_iload_n (k := 1) (q := 54) hC 1 rfl dX7_ruled_53 rfl ?_
          refine V_iconst (q := 55) hC dX7_ruled_54 rfl ?_
          refine V_idiv (q := 56) hC h1 (Rg_c rfl) (by decide) dX7_ruled_55 rfl ?_
          refine V_iadd (q := 57) hC dX7_ruled_56 rfl ?_
          refine V_goto (tgt := 65) hC dX7_ruled_57 (by decide) ?_
          exact V_iret hC hr hlk hf rfl (Rg_wr _) hs dX7_ruled_65
      · replace hf := (if_neg c3).symm.trans hf
        by_cases c5 : v0 = 4
        · replace hf := (if_pos c5).symm.trans hf
          refine V_tabIn (tgt := 66) hC h0 dX7_ruled_1 (by omega) (by omega) (by rw [c5]; rfl) (by decide) ?_
          refine V_iload_n (k := 1) (q := 67) hC 1 rfl dX7_ruled_66 rfl ?_
          exact V_iret hC hr hlk hf rfl h1 hs dX7_ruled_67
        · replace hf := (if_neg c5).symm.trans hf
          refine V_tabOut (tgt := 68) hC h0 dX7_ruled_1 (by omega) (by decide) ?_
          refine V_iconst (q := 69) hC dX7_ruled_68 rfl ?_
          exact V_iret hC hr hlk hf rfl (Rg_c rfl) hs dX7_ruled_69
/-! X7_growth -/
abbrev rmX7_growth : Room := { frames := 1, cells := 0, slots := 0, locals := 22 }
set_option maxHeartbeats 4000000 in
set_option maxRecDepth 100000 in
theorem sX7_growth (l : Launch) {G : GT} (hG : GI G) {v0 : Int} {v1 : Int} {v2 : Int} {v3 : Int} (h0 : Rg v0) (h1 : Rg v1) (h2 : Rg v2) (h3 : Rg v3) {σ : Hp} (hs : RgS σ) : Cti l G yX7_growth wsX7_growth rmX7_growth [iv v0, iv v1, iv v2, iv v3] σ (fX7_growth v0 v1 v2 v3) σ := by
  obtain ⟨x0, hf⟩ : ∃ x, fX7_growth v0 v1 v2 v3 = x := ⟨_, rfl⟩
  rw [hf]
  unfold fX7_growth at hf
  refine Cti_start (lv := [(0, iv v0), (1, iv v1), (2, iv v2), (3, iv v3)]) (ret := (some .int)) (by decide +kernel) rfl hG (Nat.le_of_ble_eq_true rfl) rfl (fun p e s m args below meth c hC hr hlk => ?_)
  refine V_iload_n (k := 0) (q := 1) hC 0 rfl dX7_growth_0 rfl ?_
  refine V_iload_n (k := 1) (q := 2) hC 1 rfl dX7_growth_1 rfl ?_
  refine V_iload_n (k := 3) (q := 3) hC 3 rfl dX7_growth_2 rfl ?_
  refine V_csi (st := []) (q := 6) hC (sX7_ruled l hG h0 h1 h3 hs) (va_cwS 3 hC.2.2.2.2.1 gX7_growth_X7_ruled rfl rfl rfl (by decide +kernel) ⟨Nat.le_of_ble_eq_true rfl, Nat.le_of_ble_eq_true rfl⟩) rfl rfl (Nat.le_of_ble_eq_true rfl) dX7_growth_3 rfl ⟨Nat.zero_le _, Nat.zero_le _⟩ (fun hr1 _ => ?_)
  refine V_istore (i := 4) (lv' := [(0, iv v0), (1, iv v1), (2, iv v2), (3, iv v3), (4, iv (fX7_ruled v0 v1 v3))]) (q := 8) hC [1, 2, 3, 4, 0] (by decide) rfl dX7_growth_6 rfl ?_
  refine V_iload_n (k := 2) (q := 9) hC 2 rfl dX7_growth_8 rfl ?_
  refine V_iload (k := 4) (q := 11) hC 4 rfl dX7_growth_9 rfl ?_
  refine V_iadd (q := 12) hC dX7_growth_11 rfl ?_
  refine V_sipush (q := 15) hC (by decide) dX7_growth_12 rfl ?_
  refine V_icmp_ge (tgt := 23) (q := 18) hC (Rg_wr _) (Rg_c rfl) dX7_growth_15 (by decide) rfl (fun c2 => ?_) (fun c2 => ?_)
  · replace hf := (if_pos c2).symm.trans hf
    refine V_sipush (q := 26) hC (by decide) dX7_growth_23 rfl ?_
    refine V_iload_n (k := 2) (q := 27) hC 2 rfl dX7_growth_26 rfl ?_
    refine V_isub (q := 28) hC dX7_growth_27 rfl ?_
    exact V_iret hC hr hlk hf rfl (Rg_wr _) hs dX7_growth_28
  · replace hf := (if_neg c2).symm.trans hf
    refine V_iload (k := 4) (q := 20) hC 4 rfl dX7_growth_18 rfl ?_
    refine V_goto (tgt := 28) hC dX7_growth_20 (by decide) ?_
    exact V_iret hC hr hlk hf rfl hr1 hs dX7_growth_28
/-! X7_heals -/
abbrev rmX7_heals : Room := { frames := 0, cells := 0, slots := 0, locals := 0 }
set_option maxHeartbeats 4000000 in
set_option maxRecDepth 100000 in
theorem sX7_heals (l : Launch) {G : GT} (hG : GI G) {v0 : Int} {v1 : Int} {v2 : Int} (h0 : Rg v0) (h1 : Rg v1) (h2 : Rg v2) {σ : Hp} (hs : RgS σ) : Cti l G yX7_heals wsX7_heals rmX7_heals [iv v0, iv v1, iv v2] σ (fX7_heals v0 v1 v2) σ := by
  obtain ⟨x0, hf⟩ : ∃ x, fX7_heals v0 v1 v2 = x := ⟨_, rfl⟩
  rw [hf]
  unfold fX7_heals at hf
  refine Cti_start (lv := [(0, iv v0), (1, iv v1), (2, iv v2)]) (ret := (some .boolean)) (by decide +kernel) rfl hG (Nat.le_of_ble_eq_true rfl) rfl (fun p e s m args below meth c hC hr hlk => ?_)
  refine V_iload_n (k := 0) (q := 1) hC 0 rfl dX7_heals_0 rfl ?_
  refine V_iconst (q := 2) hC dX7_heals_1 rfl ?_
  refine V_icmp_ne (tgt := 24) (q := 5) hC h0 (Rg_c rfl) dX7_heals_2 (by decide) rfl (fun c1 => ?_) (fun c1 => ?_)
  · replace hf := (if_neg c1).symm.trans hf
    refine V_iload_n (k := 1) (q := 25) hC 1 rfl dX7_heals_24 rfl ?_
    refine V_iconst (q := 26) hC dX7_heals_25 rfl ?_
    refine V_icmp_le (tgt := 33) (q := 29) hC h1 (Rg_c rfl) dX7_heals_26 (by decide) rfl (fun c2 => ?_) (fun c2 => ?_)
    · replace hf := (if_pos c2).symm.trans hf
      refine V_iconst (q := 34) hC dX7_heals_33 rfl ?_
      exact V_zret hC hr hlk (Or.inl rfl) hf rfl hs dX7_heals_34
    · replace hf := (if_neg c2).symm.trans hf
      refine V_iconst (q := 30) hC dX7_heals_29 rfl ?_
      refine V_goto (tgt := 34) hC dX7_heals_30 (by decide) ?_
      exact V_zret hC hr hlk (Or.inr rfl) hf rfl hs dX7_heals_34
  · replace hf := (if_pos c1).symm.trans hf
    refine V_iload_n (k := 1) (q := 6) hC 1 rfl dX7_heals_5 rfl ?_
    refine V_if_le (tgt := 20) (q := 9) hC h1 dX7_heals_6 (by decide) rfl (fun c3 => ?_) (fun c3 => ?_)
    · replace hf := (if_pos c3).symm.trans hf
      refine V_iconst (q := 21) hC dX7_heals_20 rfl ?_
      refine V_goto (tgt := 34) hC dX7_heals_21 (by decide) ?_
      exact V_zret hC hr hlk (Or.inl rfl) hf rfl hs dX7_heals_34
    · replace hf := (if_neg c3).symm.trans hf
      refine V_iload_n (k := 2) (q := 10) hC 2 rfl dX7_heals_9 rfl ?_
      refine V_iconst (q := 11) hC dX7_heals_10 rfl ?_
      refine V_irem (q := 12) hC h2 (Rg_c rfl) (by decide) dX7_heals_11 rfl ?_
      refine V_iconst (q := 13) hC dX7_heals_12 rfl ?_
      refine V_icmp_ne (tgt := 20) (q := 16) hC (Rg_qrem _ _) (Rg_c rfl) dX7_heals_13 (by decide) rfl (fun c4 => ?_) (fun c4 => ?_)
      · replace hf := (if_neg c4).symm.trans hf
        refine V_iconst (q := 21) hC dX7_heals_20 rfl ?_
        refine V_goto (tgt := 34) hC dX7_heals_21 (by decide) ?_
        exact V_zret hC hr hlk (Or.inl rfl) hf rfl hs dX7_heals_34
      · replace hf := (if_pos c4).symm.trans hf
        refine V_iconst (q := 17) hC dX7_heals_16 rfl ?_
        refine V_goto (tgt := 34) hC dX7_heals_17 (by decide) ?_
        exact V_zret hC hr hlk (Or.inr rfl) hf rfl hs dX7_heals_34
/-! X7_passes -/
abbrev rmX7_passes : Room := { frames := 2, cells := 0, slots := 0, locals := 46 }
set_option maxHeartbeats 4000000 in
set_option maxRecDepth 100000 in
theorem tlX7_passes_2 {p : Program} {l : Launch} {e : Env} {s : State} {m : MethodId} {args : Array Value} {below : List Frame} {meth : Method} {c : Code} {G : GT} (hG : GI G) (hC : CX p s m args c cX7_passes 7 RX7 wsX7_passes G (AA G)) (hr : meth.sig.returnType = none) (hlk : meth.locks = false) {s0 : Nat} {j0 : Nat} (hi0 : InD s0 j0) {r0 : Int × Hp} : ∀ n : Nat, (∀ {σ : Hp} (hs : RgS σ) {v1 : Int} (h1 : Rg v1) (hf : lX7_passes_2 n 0 σ s0 j0 v1 0 0 0 0 = some r0), VV p l e (headSpec wsX7_passes rmX7_passes).room s m args below meth c (MQ below (QV G r0.2) args s 0 0 (AA G)) G (AA G) 0 0 7 σ 2 [(0, rf G s0 j0), (1, iv v1)] []) ∧ (∀ {σ : Hp} (hs : RgS σ) {v1 : Int} {v2 : Int} {v3 : Int} {v4 : Int} {v5 : Int} (h1 : Rg v1) (h2 : Rg v2) (h3 : Rg v3) (h4 : Rg v4) (h5 : Rg v5) (hf : lX7_passes_2 n 1 σ s0 j0 v1 v2 v3 v4 v5 = some r0), VV p l e (headSpec wsX7_passes rmX7_passes).room s m args below meth c (MQ below (QV G r0.2) args s 0 0 (AA G)) G (AA G) 0 0 7 σ 50 [(0, rf G s0 j0), (1, iv v1), (2, iv v2), (3, iv v3), (4, iv v4), (5, iv v5)] []) := by
  intro n
  induction n with
  | zero =>
    exact ⟨by intro σ hs v1 h1 hf; exact absurd (show (none : Option (Int × Hp)) = some r0 from hf) (fun z => by cases z), by intro σ hs v1 v2 v3 v4 v5 h1 h2 h3 h4 h5 hf; exact absurd (show (none : Option (Int × Hp)) = some r0 from hf) (fun z => by cases z)⟩
  | succ n ih =>
    refine ⟨?_, ?_⟩
    · intro σ hs v1 h1 hf
      replace hf := (lX7_passes_2_e0 n σ s0 j0 v1 0 0 0 0).symm.trans hf
      refine V_iload_n (k := 1) (q := 3) hC 1 rfl dX7_passes_2 rfl ?_
      refine V_aload_n (k := 0) (q := 4) hC 0 rfl dX7_passes_3 rfl ?_
      refine V_iconst (q := 5) hC dX7_passes_4 rfl ?_
      obtain ⟨g1, hf⟩ := gd_some hf
      refine V_iald (q := 6) hC hi0 rfl g1 (Rg_c rfl) dX7_passes_5 rfl ?_
      refine V_icmp_ge (tgt := 124) (q := 9) hC h1 (hs _ _ _) dX7_passes_6 (by decide) rfl (fun c2 => ?_) (fun c2 => ?_)
      · replace hf := (if_pos c2).symm.trans hf
        refine V_aload_n (k := 0) (q := 125) hC 0 rfl dX7_passes_124 rfl ?_
        refine V_iconst (q := 126) hC dX7_passes_125 rfl ?_
        refine V_dup2 (q := 127) hC rfl rfl dX7_passes_126 rfl ?_
        obtain ⟨g3, hf⟩ := gd_some hf
        refine V_iald (q := 128) hC hi0 rfl g3 (Rg_c rfl) dX7_passes_127 rfl ?_
        refine V_iconst (q := 129) hC dX7_passes_128 rfl ?_
        refine V_iadd (q := 130) hC dX7_passes_129 rfl ?_
        obtain ⟨g4, hf⟩ := gd_some hf
        obtain ⟨σ5, e6, hf⟩ := sq_ex hf
        have hs7 : RgS σ5 := by rw [e6]; exact RgS_hup hs (Rg_wr _)
        refine V_iast (q := 131) hC hi0 rfl g4 (Rg_c rfl) e6 dX7_passes_130 rfl ?_
        exact V_vret hC hr hlk (re_2 hf) hs7 dX7_passes_131
      · replace hf := (if_neg c2).symm.trans hf
        refine V_iconst (q := 10) hC dX7_passes_9 rfl ?_
        refine V_iconst (q := 11) hC dX7_passes_10 rfl ?_
        refine V_iload_n (k := 1) (q := 12) hC 1 rfl dX7_passes_11 rfl ?_
        refine V_imul (q := 13) hC dX7_passes_12 rfl ?_
        refine V_iadd (q := 14) hC dX7_passes_13 rfl ?_
        refine V_istore_n (k := 2) (i := 2) (lv' := [(0, rf G s0 j0), (1, iv v1), (2, iv (wr (4 + (wr (3 * v1)))))]) (q := 15) hC [1, 2, 0] rfl (by decide) rfl dX7_passes_14 rfl ?_
        refine V_aload_n (k := 0) (q := 16) hC 0 rfl dX7_passes_15 rfl ?_
        refine V_iload_n (k := 2) (q := 17) hC 2 rfl dX7_passes_16 rfl ?_
        obtain ⟨g8, hf⟩ := gd_some hf
        refine V_iald (q := 18) hC hi0 rfl g8 (Rg_wr _) dX7_passes_17 rfl ?_
        refine V_aload_n (k := 0) (q := 19) hC 0 rfl dX7_passes_18 rfl ?_
        refine V_iload_n (k := 2) (q := 20) hC 2 rfl dX7_passes_19 rfl ?_
        refine V_iconst (q := 21) hC dX7_passes_20 rfl ?_
        refine V_iadd (q := 22) hC dX7_passes_21 rfl ?_
        obtain ⟨g9, hf⟩ := gd_some hf
        refine V_iald (q := 23) hC hi0 rfl g9 (Rg_wr _) dX7_passes_22 rfl ?_
        refine V_aload_n (k := 0) (q := 24) hC 0 rfl dX7_passes_23 rfl ?_
        refine V_iload_n (k := 2) (q := 25) hC 2 rfl dX7_passes_24 rfl ?_
        refine V_iconst (q := 26) hC dX7_passes_25 rfl ?_
        refine V_iadd (q := 27) hC dX7_passes_26 rfl ?_
        obtain ⟨g10, hf⟩ := gd_some hf
        refine V_iald (q := 28) hC hi0 rfl g10 (Rg_wr _) dX7_passes_27 rfl ?_
        refine V_aload_n (k := 0) (q := 29) hC 0 rfl dX7_passes_28 rfl ?_
        refine V_iconst (q := 30) hC dX7_passes_29 rfl ?_
        obtain ⟨g11, hf⟩ := gd_some hf
        refine V_iald (q := 31) hC hi0 rfl g11 (Rg_c rfl) dX7_passes_30 rfl ?_
        refine V_csi (st := []) (q := 34) hC (sX7_growth l hG (hs _ _ _) (hs _ _ _) (hs _ _ _) (hs _ _ _) hs) (va_cwS 4 hC.2.2.2.2.1 gX7_passes_X7_growth rfl rfl rfl (by decide +kernel) ⟨Nat.le_of_ble_eq_true rfl, Nat.le_of_ble_eq_true rfl⟩) rfl rfl (Nat.le_of_ble_eq_true rfl) dX7_passes_31 rfl ⟨Nat.zero_le _, Nat.zero_le _⟩ (fun hr12 _ => ?_)
        obtain ⟨x13, ex14, hf⟩ := sq_ex hf
        refine V_top ex14 ?_
        refine V_istore_n (k := 3) (i := 3) (lv' := [(0, rf G s0 j0), (1, iv v1), (2, iv (wr (4 + (wr (3 * v1))))), (3, iv x13)]) (q := 35) hC [1, 2, 3, 0] rfl (by decide) rfl dX7_passes_34 rfl ?_
        refine V_aload_n (k := 0) (q := 36) hC 0 rfl dX7_passes_35 rfl ?_
        refine V_iload_n (k := 2) (q := 37) hC 2 rfl dX7_passes_36 rfl ?_
        obtain ⟨g15, hf⟩ := gd_some hf
        refine V_iald (q := 38) hC hi0 rfl g15 (Rg_wr _) dX7_passes_37 rfl ?_
        refine V_iload_n (k := 3) (q := 39) hC 3 rfl dX7_passes_38 rfl ?_
        refine V_aload_n (k := 0) (q := 40) hC 0 rfl dX7_passes_39 rfl ?_
        refine V_iconst (q := 41) hC dX7_passes_40 rfl ?_
        obtain ⟨g16, hf⟩ := gd_some hf
        refine V_iald (q := 42) hC hi0 rfl g16 (Rg_c rfl) dX7_passes_41 rfl ?_
        refine V_csi (st := []) (q := 45) hC (sX7_heals l hG (hs _ _ _) (by rw [ex14]; exact hr12) (hs _ _ _) hs) (va_cwS 3 hC.2.2.2.2.1 gX7_passes_X7_heals rfl rfl rfl (by decide +kernel) ⟨Nat.le_of_ble_eq_true rfl, Nat.le_of_ble_eq_true rfl⟩) rfl rfl (Nat.le_of_ble_eq_true rfl) dX7_passes_42 rfl ⟨Nat.zero_le _, Nat.zero_le _⟩ (fun hr17 _ => ?_)
        refine V_istore (i := 4) (lv' := [(0, rf G s0 j0), (1, iv v1), (2, iv (wr (4 + (wr (3 * v1))))), (3, iv x13), (4, iv (fX7_heals (σ s0 j0 (wr (4 + (wr (3 * v1)))).toNat) x13 (σ s0 j0 1)))]) (q := 47) hC [1, 2, 3, 4, 0] (by decide) rfl dX7_passes_45 rfl ?_
        refine V_iconst (q := 48) hC dX7_passes_47 rfl ?_
        refine V_istore (i := 5) (lv' := [(0, rf G s0 j0), (1, iv v1), (2, iv (wr (4 + (wr (3 * v1))))), (3, iv x13), (4, iv (fX7_heals (σ s0 j0 (wr (4 + (wr (3 * v1)))).toNat) x13 (σ s0 j0 1))), (5, iv 0)]) (q := 50) hC [1, 2, 3, 4, 5, 0] (by decide) rfl dX7_passes_48 rfl ?_
        refine V_lsub [0, 1, 2, 3, 4, 5] rfl ?_
        exact ih.2 hs h1 (Rg_wr _) (by rw [ex14]; exact hr12) hr17 (Rg_c rfl) hf
    · intro σ hs v1 v2 v3 v4 v5 h1 h2 h3 h4 h5 hf
      replace hf := (lX7_passes_2_e1 n σ s0 j0 v1 v2 v3 v4 v5).symm.trans hf
      refine V_iload (k := 5) (q := 52) hC 5 rfl dX7_passes_50 rfl ?_
      refine V_aload_n (k := 0) (q := 53) hC 0 rfl dX7_passes_52 rfl ?_
      refine V_iconst (q := 54) hC dX7_passes_53 rfl ?_
      obtain ⟨g18, hf⟩ := gd_some hf
      refine V_iald (q := 55) hC hi0 rfl g18 (Rg_c rfl) dX7_passes_54 rfl ?_
      refine V_icmp_ge (tgt := 109) (q := 58) hC h5 (hs _ _ _) dX7_passes_55 (by decide) rfl (fun c19 => ?_) (fun c19 => ?_)
      · replace hf := (if_pos c19).symm.trans hf
        refine V_aload_n (k := 0) (q := 110) hC 0 rfl dX7_passes_109 rfl ?_
        refine V_iload_n (k := 2) (q := 111) hC 2 rfl dX7_passes_110 rfl ?_
        refine V_iconst (q := 112) hC dX7_passes_111 rfl ?_
        refine V_iadd (q := 113) hC dX7_passes_112 rfl ?_
        refine V_dup2 (q := 114) hC rfl rfl dX7_passes_113 rfl ?_
        obtain ⟨g20, hf⟩ := gd_some hf
        refine V_iald (q := 115) hC hi0 rfl g20 (Rg_wr _) dX7_passes_114 rfl ?_
        refine V_iload_n (k := 3) (q := 116) hC 3 rfl dX7_passes_115 rfl ?_
        refine V_iadd (q := 117) hC dX7_passes_116 rfl ?_
        obtain ⟨g21, hf⟩ := gd_some hf
        obtain ⟨σ22, e23, hf⟩ := sq_ex hf
        have hs24 : RgS σ22 := by rw [e23]; exact RgS_hup hs (Rg_wr _)
        refine V_iast (q := 118) hC hi0 rfl g21 (Rg_wr _) e23 dX7_passes_117 rfl ?_
        refine V_iinc (i := 1) (lv' := [(0, rf G s0 j0), (1, iv (wr (v1 + 1))), (2, iv v2), (3, iv v3), (4, iv v4), (5, iv v5)]) (q := 121) hC 1 rfl [1, 0, 2, 3, 4, 5] (by decide) rfl dX7_passes_118 rfl ?_
        refine V_goto (tgt := 2) hC dX7_passes_121 (by decide) ?_
        refine V_lsub [0, 1] rfl ?_
        exact ih.1 hs24 (Rg_wr _) hf
      · replace hf := (if_neg c19).symm.trans hf
        refine V_iload (k := 4) (q := 60) hC 4 rfl dX7_passes_58 rfl ?_
        refine V_if_eq (tgt := 109) (q := 63) hC h4 dX7_passes_60 (by decide) rfl (fun c25 => ?_) (fun c25 => ?_)
        · replace hf := (if_pos c25).symm.trans hf
          refine V_aload_n (k := 0) (q := 110) hC 0 rfl dX7_passes_109 rfl ?_
          refine V_iload_n (k := 2) (q := 111) hC 2 rfl dX7_passes_110 rfl ?_
          refine V_iconst (q := 112) hC dX7_passes_111 rfl ?_
          refine V_iadd (q := 113) hC dX7_passes_112 rfl ?_
          refine V_dup2 (q := 114) hC rfl rfl dX7_passes_113 rfl ?_
          obtain ⟨g26, hf⟩ := gd_some hf
          refine V_iald (q := 115) hC hi0 rfl g26 (Rg_wr _) dX7_passes_114 rfl ?_
          refine V_iload_n (k := 3) (q := 116) hC 3 rfl dX7_passes_115 rfl ?_
          refine V_iadd (q := 117) hC dX7_passes_116 rfl ?_
          obtain ⟨g27, hf⟩ := gd_some hf
          obtain ⟨σ28, e29, hf⟩ := sq_ex hf
          have hs30 : RgS σ28 := by rw [e29]; exact RgS_hup hs (Rg_wr _)
          refine V_iast (q := 118) hC hi0 rfl g27 (Rg_wr _) e29 dX7_passes_117 rfl ?_
          refine V_iinc (i := 1) (lv' := [(0, rf G s0 j0), (1, iv (wr (v1 + 1))), (2, iv v2), (3, iv v3), (4, iv v4), (5, iv v5)]) (q := 121) hC 1 rfl [1, 0, 2, 3, 4, 5] (by decide) rfl dX7_passes_118 rfl ?_
          refine V_goto (tgt := 2) hC dX7_passes_121 (by decide) ?_
          refine V_lsub [0, 1] rfl ?_
          exact ih.1 hs30 (Rg_wr _) hf
        · replace hf := (if_neg c25).symm.trans hf
          refine V_bipush (q := 65) hC (by decide) dX7_passes_63 rfl ?_
          refine V_iconst (q := 66) hC dX7_passes_65 rfl ?_
          refine V_iload (k := 5) (q := 68) hC 5 rfl dX7_passes_66 rfl ?_
          refine V_imul (q := 69) hC dX7_passes_68 rfl ?_
          refine V_iadd (q := 70) hC dX7_passes_69 rfl ?_
          refine V_istore (i := 6) (lv' := [(0, rf G s0 j0), (1, iv v1), (2, iv v2), (3, iv v3), (4, iv v4), (5, iv v5), (6, iv (wr (16 + (wr (4 * v5)))))]) (q := 72) hC [1, 2, 3, 4, 5, 6, 0] (by decide) rfl dX7_passes_70 rfl ?_
          refine V_aload_n (k := 0) (q := 73) hC 0 rfl dX7_passes_72 rfl ?_
          refine V_iload (k := 6) (q := 75) hC 6 rfl dX7_passes_73 rfl ?_
          refine V_iconst (q := 76) hC dX7_passes_75 rfl ?_
          refine V_iadd (q := 77) hC dX7_passes_76 rfl ?_
          refine V_dup2 (q := 78) hC rfl rfl dX7_passes_77 rfl ?_
          obtain ⟨g31, hf⟩ := gd_some hf
          refine V_iald (q := 79) hC hi0 rfl g31 (Rg_wr _) dX7_passes_78 rfl ?_
          refine V_aload_n (k := 0) (q := 80) hC 0 rfl dX7_passes_79 rfl ?_
          refine V_iload (k := 6) (q := 82) hC 6 rfl dX7_passes_80 rfl ?_
          obtain ⟨g32, hf⟩ := gd_some hf
          refine V_iald (q := 83) hC hi0 rfl g32 (Rg_wr _) dX7_passes_82 rfl ?_
          refine V_iload_n (k := 1) (q := 84) hC 1 rfl dX7_passes_83 rfl ?_
          refine V_icmp_ne (tgt := 100) (q := 87) hC (hs _ _ _) h1 dX7_passes_84 (by decide) rfl (fun c33 => ?_) (fun c33 => ?_)
          · replace hf := (if_neg c33).symm.trans hf
            refine V_iconst (q := 101) hC dX7_passes_100 rfl ?_
            refine V_isub (q := 102) hC dX7_passes_101 rfl ?_
            obtain ⟨g34, hf⟩ := gd_some hf
            obtain ⟨σ35, e36, hf⟩ := sq_ex hf
            have hs37 : RgS σ35 := by rw [e36]; exact RgS_hup hs (Rg_wr _)
            refine V_iast (q := 103) hC hi0 rfl g34 (Rg_wr _) e36 dX7_passes_102 rfl ?_
            refine V_iinc (i := 5) (lv' := [(0, rf G s0 j0), (1, iv v1), (2, iv v2), (3, iv v3), (4, iv v4), (5, iv (wr (v5 + 1))), (6, iv (wr (16 + (wr (4 * v5)))))]) (q := 106) hC 5 rfl [1, 2, 3, 4, 5, 0, 6] (by decide) rfl dX7_passes_103 rfl ?_
            refine V_goto (tgt := 50) hC dX7_passes_106 (by decide) ?_
            refine V_lsub [0, 1, 2, 3, 4, 5] rfl ?_
            exact ih.2 hs37 h1 h2 h3 h4 (Rg_wr _) hf
          · replace hf := (if_pos c33).symm.trans hf
            refine V_aload_n (k := 0) (q := 88) hC 0 rfl dX7_passes_87 rfl ?_
            refine V_iload (k := 6) (q := 90) hC 6 rfl dX7_passes_88 rfl ?_
            refine V_iconst (q := 91) hC dX7_passes_90 rfl ?_
            refine V_iadd (q := 92) hC dX7_passes_91 rfl ?_
            obtain ⟨g38, hf⟩ := gd_some hf
            refine V_iald (q := 93) hC hi0 rfl g38 (Rg_wr _) dX7_passes_92 rfl ?_
            refine V_if_le (tgt := 100) (q := 96) hC (hs _ _ _) dX7_passes_93 (by decide) rfl (fun c39 => ?_) (fun c39 => ?_)
            · replace hf := (if_pos c39).symm.trans hf
              refine V_iconst (q := 101) hC dX7_passes_100 rfl ?_
              refine V_isub (q := 102) hC dX7_passes_101 rfl ?_
              obtain ⟨g40, hf⟩ := gd_some hf
              obtain ⟨σ41, e42, hf⟩ := sq_ex hf
              have hs43 : RgS σ41 := by rw [e42]; exact RgS_hup hs (Rg_wr _)
              refine V_iast (q := 103) hC hi0 rfl g40 (Rg_wr _) e42 dX7_passes_102 rfl ?_
              refine V_iinc (i := 5) (lv' := [(0, rf G s0 j0), (1, iv v1), (2, iv v2), (3, iv v3), (4, iv v4), (5, iv (wr (v5 + 1))), (6, iv (wr (16 + (wr (4 * v5)))))]) (q := 106) hC 5 rfl [1, 2, 3, 4, 5, 0, 6] (by decide) rfl dX7_passes_103 rfl ?_
              refine V_goto (tgt := 50) hC dX7_passes_106 (by decide) ?_
              refine V_lsub [0, 1, 2, 3, 4, 5] rfl ?_
              exact ih.2 hs43 h1 h2 h3 h4 (Rg_wr _) hf
            · replace hf := (if_neg c39).symm.trans hf
              refine V_iconst (q := 97) hC dX7_passes_96 rfl ?_
              refine V_goto (tgt := 101) hC dX7_passes_97 (by decide) ?_
              refine V_isub (q := 102) hC dX7_passes_101 rfl ?_
              obtain ⟨g44, hf⟩ := gd_some hf
              obtain ⟨σ45, e46, hf⟩ := sq_ex hf
              have hs47 : RgS σ45 := by rw [e46]; exact RgS_hup hs (Rg_wr _)
              refine V_iast (q := 103) hC hi0 rfl g44 (Rg_wr _) e46 dX7_passes_102 rfl ?_
              refine V_iinc (i := 5) (lv' := [(0, rf G s0 j0), (1, iv v1), (2, iv v2), (3, iv v3), (4, iv v4), (5, iv (wr (v5 + 1))), (6, iv (wr (16 + (wr (4 * v5)))))]) (q := 106) hC 5 rfl [1, 2, 3, 4, 5, 0, 6] (by decide) rfl dX7_passes_103 rfl ?_
              refine V_goto (tgt := 50) hC dX7_passes_106 (by decide) ?_
              refine V_lsub [0, 1, 2, 3, 4, 5] rfl ?_
              exact ih.2 hs47 h1 h2 h3 h4 (Rg_wr _) hf
set_option maxHeartbeats 4000000 in
set_option maxRecDepth 100000 in
theorem sX7_passes (l : Launch) {G : GT} (hG : GI G) {s0 : Nat} {j0 : Nat} (hi0 : InD s0 j0) {σ : Hp} (hs : RgS σ) {r0 : Int × Hp} (hf : fX7_passes σ s0 j0 = some r0) : Ctv l G yX7_passes wsX7_passes rmX7_passes [rf G s0 j0] σ r0.2 := by
  unfold fX7_passes at hf
  refine Ctv_start (lv := [(0, rf G s0 j0)]) (ret := none) (by decide +kernel) rfl hG (Nat.le_of_ble_eq_true rfl) rfl (fun p e s m args below meth c hC hr hlk => ?_)
  refine V_iconst (q := 1) hC dX7_passes_0 rfl ?_
  refine V_istore_n (k := 1) (i := 1) (lv' := [(0, rf G s0 j0), (1, iv 0)]) (q := 2) hC [1, 0] rfl (by decide) rfl dX7_passes_1 rfl ?_
  refine V_lsub [0, 1] rfl ?_
  exact (tlX7_passes_2 hG hC hr hlk hi0 FU).1 hs (Rg_c rfl) hf
/-! X7_tries -/
theorem kX7_tries_f25 : Cond.fieldLink RX7 25 "BarkNamesModel" "now" "[I" ∈ wsX7_tries := by decide +kernel
theorem uX7_tries_7 : ∀ w ∈ u_ws RX7 TX7 22, w ∈ wsX7_tries := by decide +kernel
theorem kX7_tries_f41 : Cond.fieldLink RX7 41 "BarkNamesModel" "tried" "[I" ∈ wsX7_tries := by decide +kernel
abbrev rmX7_tries : Room := { frames := 3, cells := 0, slots := 0, locals := 72 }
set_option maxHeartbeats 4000000 in
set_option maxRecDepth 100000 in
theorem tlX7_tries_15 {p : Program} {l : Launch} {e : Env} {s : State} {m : MethodId} {args : Array Value} {below : List Frame} {meth : Method} {c : Code} {G : GT} (hG : GI G) (hC : CX p s m args c cX7_tries 3 RX7 wsX7_tries G (AA G)) (hr : meth.sig.returnType = none) (hlk : meth.locks = false) {r0 : Int × Hp} : ∀ n : Nat, (∀ {σ : Hp} (hs : RgS σ) {v1 : Int} {v2 : Int} (h1 : Rg v1) (h2 : Rg v2) (hf : lX7_tries_15 n σ v1 v2 = some r0), VV p l e (headSpec wsX7_tries rmX7_tries).room s m args below meth c (MQ below (QV G r0.2) args s 0 0 (AA G)) G (AA G) 0 0 3 σ 15 [(0, rf G 7 0), (1, iv v1), (2, iv v2)] []) := by
  intro n
  induction n with
  | zero =>
    exact by intro σ hs v1 v2 h1 h2 hf; exact absurd (show (none : Option (Int × Hp)) = some r0 from hf) (fun z => by cases z)
  | succ n ih =>
    intro σ hs v1 v2 h1 h2 hf
    replace hf := (lX7_tries_15_e0 n σ v1 v2).symm.trans hf
    refine V_iload_n (k := 2) (q := 16) hC 2 rfl dX7_tries_15 rfl ?_
    refine V_iload_n (k := 1) (q := 17) hC 1 rfl dX7_tries_16 rfl ?_
    refine V_icmp_ge (tgt := 33) (q := 20) hC h2 h1 dX7_tries_17 (by decide) rfl (fun c6 => ?_) (fun c6 => ?_)
    · replace hf := (if_pos c6).symm.trans hf
      exact V_vret hC hr hlk (re_2 hf) hs dX7_tries_33
    · replace hf := (if_neg c6).symm.trans hf
      refine V_aload_n (k := 0) (q := 21) hC 0 rfl dX7_tries_20 rfl ?_
      refine V_getf (T := TX7) (k := 19) (q := 24) hC uX7_tries_7 rfl iD7 rfl (by decide) kX7_tries_f41 rfl dX7_tries_21 rfl ?_
      obtain ⟨r7, σ8, hc9, hf⟩ := cl_some hf
      refine V_csv (st := []) (q := 27) (σ0 := σ8) hC (sX7_passes l hG iD32 hs hc9) (va_cwS 1 hC.2.2.2.2.1 gX7_tries_X7_passes rfl rfl rfl (by decide +kernel) ⟨Nat.le_of_ble_eq_true rfl, Nat.le_of_ble_eq_true rfl⟩) rfl rfl (Nat.le_of_ble_eq_true rfl) dX7_tries_24 rfl ⟨Nat.zero_le _, Nat.zero_le _⟩ (fun hs11 => ?_)
      refine V_iinc (i := 2) (lv' := [(0, rf G 7 0), (1, iv v1), (2, iv (wr (v2 + 1)))]) (q := 30) hC 2 rfl [1, 2, 0] (by decide) rfl dX7_tries_27 rfl ?_
      refine V_goto (tgt := 15) hC dX7_tries_30 (by decide) ?_
      refine V_lsub [0, 1, 2] rfl ?_
      exact ih hs11 h1 (Rg_wr _) hf
set_option maxHeartbeats 4000000 in
set_option maxRecDepth 100000 in
theorem sX7_tries (l : Launch) {G : GT} (hG : GI G) {v1 : Int} (h1 : Rg v1) {σ : Hp} (hs : RgS σ) {r0 : Int × Hp} (hf : fX7_tries σ v1 = some r0) : Ctv l G yX7_tries wsX7_tries rmX7_tries [rf G 7 0, iv v1] σ r0.2 := by
  unfold fX7_tries at hf
  refine Ctv_start (lv := [(0, rf G 7 0), (1, iv v1)]) (ret := none) (by decide +kernel) rfl hG (Nat.le_of_ble_eq_true rfl) rfl (fun p e s m args below meth c hC hr hlk => ?_)
  refine V_aload_n (k := 0) (q := 1) hC 0 rfl dX7_tries_0 rfl ?_
  refine V_getf (T := TX7) (k := 13) (q := 4) hC uX7_tries_7 rfl iD7 rfl (by decide) kX7_tries_f25 rfl dX7_tries_1 rfl ?_
  refine V_iconst (q := 5) hC dX7_tries_4 rfl ?_
  refine V_aload_n (k := 0) (q := 6) hC 0 rfl dX7_tries_5 rfl ?_
  refine V_getf (T := TX7) (k := 19) (q := 9) hC uX7_tries_7 rfl iD7 rfl (by decide) kX7_tries_f41 rfl dX7_tries_6 rfl ?_
  refine V_iconst (q := 10) hC dX7_tries_9 rfl ?_
  obtain ⟨r1, σ2, hc3, hf⟩ := cl_some hf
  refine V_csv (st := []) (q := 13) (σ0 := σ2) hC (sX7_copies l hG iD27 (Rg_c rfl) iD32 (Rg_c rfl) hs hc3) (va_cwS 4 hC.2.2.2.2.1 gX7_tries_X7_copies rfl rfl rfl (by decide +kernel) ⟨Nat.le_of_ble_eq_true rfl, Nat.le_of_ble_eq_true rfl⟩) rfl rfl (Nat.le_of_ble_eq_true rfl) dX7_tries_10 rfl ⟨Nat.zero_le _, Nat.zero_le _⟩ (fun hs5 => ?_)
  refine V_iconst (q := 14) hC dX7_tries_13 rfl ?_
  refine V_istore_n (k := 2) (i := 2) (lv' := [(0, rf G 7 0), (1, iv v1), (2, iv 0)]) (q := 15) hC [1, 2, 0] rfl (by decide) rfl dX7_tries_14 rfl ?_
  refine V_lsub [0, 1, 2] rfl ?_
  exact (tlX7_tries_15 hG hC hr hlk FU) hs5 h1 (Rg_c rfl) hf
/-! X7_legible -/
theorem kX7_legible_c47 : Cond.constant RX7 47 (-1000000) ∈ wsX7_legible := by decide +kernel
abbrev rmX7_legible : Room := { frames := 0, cells := 0, slots := 0, locals := 0 }
set_option maxHeartbeats 4000000 in
set_option maxRecDepth 100000 in
theorem tlX7_legible_4 {p : Program} {l : Launch} {e : Env} {s : State} {m : MethodId} {args : Array Value} {below : List Frame} {meth : Method} {c : Code} {G : GT} (hG : GI G) (hC : CX p s m args c cX7_legible 5 RX7 wsX7_legible G (AA G)) (hr : meth.sig.returnType = (some .int)) (hlk : meth.locks = false) {s0 : Nat} {j0 : Nat} (hi0 : InD s0 j0) {r0 : Int × Hp} : ∀ n : Nat, (∀ {σ : Hp} (hs : RgS σ) {v1 : Int} {v2 : Int} {v3 : Int} (h1 : Rg v1) (h2 : Rg v2) (h3 : Rg v3) (hf : lX7_legible_4 n σ s0 j0 v1 v2 v3 = some r0), VV p l e (headSpec wsX7_legible rmX7_legible).room s m args below meth c (MQ below (QI G r0.1 r0.2) args s 0 0 (AA G)) G (AA G) 0 0 5 σ 4 [(0, rf G s0 j0), (1, iv v1), (2, iv v2), (3, iv v3)] []) := by
  intro n
  induction n with
  | zero =>
    exact by intro σ hs v1 v2 v3 h1 h2 h3 hf; exact absurd (show (none : Option (Int × Hp)) = some r0 from hf) (fun z => by cases z)
  | succ n ih =>
    intro σ hs v1 v2 v3 h1 h2 h3 hf
    replace hf := (lX7_legible_4_e0 n σ s0 j0 v1 v2 v3).symm.trans hf
    refine V_iload_n (k := 3) (q := 5) hC 3 rfl dX7_legible_4 rfl ?_
    refine V_aload_n (k := 0) (q := 6) hC 0 rfl dX7_legible_5 rfl ?_
    refine V_iconst (q := 7) hC dX7_legible_6 rfl ?_
    obtain ⟨g1, hf⟩ := gd_some hf
    refine V_iald (q := 8) hC hi0 rfl g1 (Rg_c rfl) dX7_legible_7 rfl ?_
    refine V_icmp_ge (tgt := 58) (q := 11) hC h3 (hs _ _ _) dX7_legible_8 (by decide) rfl (fun c2 => ?_) (fun c2 => ?_)
    · replace hf := (if_pos c2).symm.trans hf
      refine V_iload_n (k := 2) (q := 59) hC 2 rfl dX7_legible_58 rfl ?_
      exact V_iret hC hr hlk (re_1 hf) (re_2 hf) h2 hs dX7_legible_59
    · replace hf := (if_neg c2).symm.trans hf
      refine V_bipush (q := 13) hC (by decide) dX7_legible_11 rfl ?_
      refine V_iconst (q := 14) hC dX7_legible_13 rfl ?_
      refine V_iload_n (k := 3) (q := 15) hC 3 rfl dX7_legible_14 rfl ?_
      refine V_imul (q := 16) hC dX7_legible_15 rfl ?_
      refine V_iadd (q := 17) hC dX7_legible_16 rfl ?_
      refine V_istore (i := 4) (lv' := [(0, rf G s0 j0), (1, iv v1), (2, iv v2), (3, iv v3), (4, iv (wr (16 + (wr (4 * v3)))))]) (q := 19) hC [1, 2, 3, 4, 0] (by decide) rfl dX7_legible_17 rfl ?_
      refine V_iload_n (k := 2) (q := 20) hC 2 rfl dX7_legible_19 rfl ?_
      refine V_aload_n (k := 0) (q := 21) hC 0 rfl dX7_legible_20 rfl ?_
      refine V_iload (k := 4) (q := 23) hC 4 rfl dX7_legible_21 rfl ?_
      refine V_iconst (q := 24) hC dX7_legible_23 rfl ?_
      refine V_iadd (q := 25) hC dX7_legible_24 rfl ?_
      obtain ⟨g3, hf⟩ := gd_some hf
      refine V_iald (q := 26) hC hi0 rfl g3 (Rg_wr _) dX7_legible_25 rfl ?_
      refine V_if_le (tgt := 49) (q := 29) hC (hs _ _ _) dX7_legible_26 (by decide) rfl (fun c4 => ?_) (fun c4 => ?_)
      · replace hf := (if_pos c4).symm.trans hf
        refine V_iconst (q := 50) hC dX7_legible_49 rfl ?_
        refine V_ior (q := 51) hC dX7_legible_50 rfl ?_
        refine V_istore_n (k := 2) (i := 2) (lv' := [(0, rf G s0 j0), (1, iv v1), (2, iv (qor v2 0)), (3, iv v3), (4, iv (wr (16 + (wr (4 * v3)))))]) (q := 52) hC [1, 2, 0, 3, 4] rfl (by decide) rfl dX7_legible_51 rfl ?_
        refine V_iinc (i := 3) (lv' := [(0, rf G s0 j0), (1, iv v1), (2, iv (qor v2 0)), (3, iv (wr (v3 + 1))), (4, iv (wr (16 + (wr (4 * v3)))))]) (q := 55) hC 3 rfl [1, 2, 3, 0, 4] (by decide) rfl dX7_legible_52 rfl ?_
        refine V_goto (tgt := 4) hC dX7_legible_55 (by decide) ?_
        refine V_lsub [0, 1, 2, 3] rfl ?_
        exact ih hs h1 (Rg_qor _ _) (Rg_wr _) hf
      · replace hf := (if_neg c4).symm.trans hf
        refine V_iload_n (k := 1) (q := 30) hC 1 rfl dX7_legible_29 rfl ?_
        refine V_ldc (q := 32) (n := (-1000000)) hC (by decide) kX7_legible_c47 dX7_legible_30 rfl ?_
        refine V_icmp_eq (tgt := 43) (q := 35) hC h1 (Rg_c rfl) dX7_legible_32 (by decide) rfl (fun c5 => ?_) (fun c5 => ?_)
        · replace hf := (if_pos c5).symm.trans hf
          refine V_iconst (q := 44) hC dX7_legible_43 rfl ?_
          refine V_iload_n (k := 3) (q := 45) hC 3 rfl dX7_legible_44 rfl ?_
          refine V_ishl (q := 46) hC dX7_legible_45 rfl ?_
          refine V_goto (tgt := 50) hC dX7_legible_46 (by decide) ?_
          refine V_ior (q := 51) hC dX7_legible_50 rfl ?_
          refine V_istore_n (k := 2) (i := 2) (lv' := [(0, rf G s0 j0), (1, iv v1), (2, iv (qor v2 (qshl 1 v3))), (3, iv v3), (4, iv (wr (16 + (wr (4 * v3)))))]) (q := 52) hC [1, 2, 0, 3, 4] rfl (by decide) rfl dX7_legible_51 rfl ?_
          refine V_iinc (i := 3) (lv' := [(0, rf G s0 j0), (1, iv v1), (2, iv (qor v2 (qshl 1 v3))), (3, iv (wr (v3 + 1))), (4, iv (wr (16 + (wr (4 * v3)))))]) (q := 55) hC 3 rfl [1, 2, 3, 0, 4] (by decide) rfl dX7_legible_52 rfl ?_
          refine V_goto (tgt := 4) hC dX7_legible_55 (by decide) ?_
          refine V_lsub [0, 1, 2, 3] rfl ?_
          exact ih hs h1 (Rg_qor _ _) (Rg_wr _) hf
        · replace hf := (if_neg c5).symm.trans hf
          refine V_aload_n (k := 0) (q := 36) hC 0 rfl dX7_legible_35 rfl ?_
          refine V_iload (k := 4) (q := 38) hC 4 rfl dX7_legible_36 rfl ?_
          obtain ⟨g6, hf⟩ := gd_some hf
          refine V_iald (q := 39) hC hi0 rfl g6 (Rg_wr _) dX7_legible_38 rfl ?_
          refine V_iload_n (k := 1) (q := 40) hC 1 rfl dX7_legible_39 rfl ?_
          refine V_icmp_ne (tgt := 49) (q := 43) hC (hs _ _ _) h1 dX7_legible_40 (by decide) rfl (fun c7 => ?_) (fun c7 => ?_)
          · replace hf := (if_neg c7).symm.trans hf
            refine V_iconst (q := 50) hC dX7_legible_49 rfl ?_
            refine V_ior (q := 51) hC dX7_legible_50 rfl ?_
            refine V_istore_n (k := 2) (i := 2) (lv' := [(0, rf G s0 j0), (1, iv v1), (2, iv (qor v2 0)), (3, iv v3), (4, iv (wr (16 + (wr (4 * v3)))))]) (q := 52) hC [1, 2, 0, 3, 4] rfl (by decide) rfl dX7_legible_51 rfl ?_
            refine V_iinc (i := 3) (lv' := [(0, rf G s0 j0), (1, iv v1), (2, iv (qor v2 0)), (3, iv (wr (v3 + 1))), (4, iv (wr (16 + (wr (4 * v3)))))]) (q := 55) hC 3 rfl [1, 2, 3, 0, 4] (by decide) rfl dX7_legible_52 rfl ?_
            refine V_goto (tgt := 4) hC dX7_legible_55 (by decide) ?_
            refine V_lsub [0, 1, 2, 3] rfl ?_
            exact ih hs h1 (Rg_qor _ _) (Rg_wr _) hf
          · replace hf := (if_pos c7).symm.trans hf
            refine V_iconst (q := 44) hC dX7_legible_43 rfl ?_
            refine V_iload_n (k := 3) (q := 45) hC 3 rfl dX7_legible_44 rfl ?_
            refine V_ishl (q := 46) hC dX7_legible_45 rfl ?_
            refine V_goto (tgt := 50) hC dX7_legible_46 (by decide) ?_
            refine V_ior (q := 51) hC dX7_legible_50 rfl ?_
            refine V_istore_n (k := 2) (i := 2) (lv' := [(0, rf G s0 j0), (1, iv v1), (2, iv (qor v2 (qshl 1 v3))), (3, iv v3), (4, iv (wr (16 + (wr (4 * v3)))))]) (q := 52) hC [1, 2, 0, 3, 4] rfl (by decide) rfl dX7_legible_51 rfl ?_
            refine V_iinc (i := 3) (lv' := [(0, rf G s0 j0), (1, iv v1), (2, iv (qor v2 (qshl 1 v3))), (3, iv (wr (v3 + 1))), (4, iv (wr (16 + (wr (4 * v3)))))]) (q := 55) hC 3 rfl [1, 2, 3, 0, 4] (by decide) rfl dX7_legible_52 rfl ?_
            refine V_goto (tgt := 4) hC dX7_legible_55 (by decide) ?_
            refine V_lsub [0, 1, 2, 3] rfl ?_
            exact ih hs h1 (Rg_qor _ _) (Rg_wr _) hf
set_option maxHeartbeats 4000000 in
set_option maxRecDepth 100000 in
theorem sX7_legible (l : Launch) {G : GT} (hG : GI G) {s0 : Nat} {j0 : Nat} {v1 : Int} (hi0 : InD s0 j0) (h1 : Rg v1) {σ : Hp} (hs : RgS σ) {r0 : Int × Hp} (hf : fX7_legible σ s0 j0 v1 = some r0) : Cti l G yX7_legible wsX7_legible rmX7_legible [rf G s0 j0, iv v1] σ r0.1 r0.2 := by
  unfold fX7_legible at hf
  refine Cti_start (lv := [(0, rf G s0 j0), (1, iv v1)]) (ret := (some .int)) (by decide +kernel) rfl hG (Nat.le_of_ble_eq_true rfl) rfl (fun p e s m args below meth c hC hr hlk => ?_)
  refine V_iconst (q := 1) hC dX7_legible_0 rfl ?_
  refine V_istore_n (k := 2) (i := 2) (lv' := [(0, rf G s0 j0), (1, iv v1), (2, iv 0)]) (q := 2) hC [1, 2, 0] rfl (by decide) rfl dX7_legible_1 rfl ?_
  refine V_iconst (q := 3) hC dX7_legible_2 rfl ?_
  refine V_istore_n (k := 3) (i := 3) (lv' := [(0, rf G s0 j0), (1, iv v1), (2, iv 0), (3, iv 0)]) (q := 4) hC [1, 2, 3, 0] rfl (by decide) rfl dX7_legible_3 rfl ?_
  refine V_lsub [0, 1, 2, 3] rfl ?_
  exact (tlX7_legible_4 hG hC hr hlk hi0 FU) hs h1 (Rg_c rfl) (Rg_c rfl) hf
/-! X7_between -/
abbrev rmX7_between : Room := { frames := 0, cells := 0, slots := 0, locals := 0 }
set_option maxHeartbeats 4000000 in
set_option maxRecDepth 100000 in
theorem tjX7_between_32 {p : Program} {l : Launch} {e : Env} {s : State} {m : MethodId} {args : Array Value} {below : List Frame} {meth : Method} {c : Code} {G : GT} (hG : GI G) (hC : CX p s m args c cX7_between 4 RX7 wsX7_between G (AA G)) (hr : meth.sig.returnType = (some .int)) (hlk : meth.locks = false) {s0 : Nat} {j0 : Nat} (hi0 : InD s0 j0) {r0 : Int × Hp} {σ : Hp} (hs : RgS σ) {w0 : Int} (hw0 : Rg w0) (hf : jX7_between_32 σ s0 j0 w0 = some r0) : VV p l e (headSpec wsX7_between rmX7_between).room s m args below meth c (MQ below (QI G r0.1 r0.2) args s 0 0 (AA G)) G (AA G) 0 0 4 σ 32 [] [iv w0] := by
  unfold jX7_between_32 at hf
  refine V_istore_n (k := 3) (i := 3) (lv' := [(3, iv w0)]) (q := 33) hC [0] rfl (by decide) rfl dX7_between_32 rfl ?_
  refine V_iload_n (k := 3) (q := 34) hC 0 rfl dX7_between_33 rfl ?_
  refine V_bipush (q := 36) hC (by decide) dX7_between_34 rfl ?_
  refine V_icmp_le (tgt := 46) (q := 39) hC hw0 (Rg_c rfl) dX7_between_36 (by decide) rfl (fun c4 => ?_) (fun c4 => ?_)
  · replace hf := (if_pos c4).symm.trans hf
    refine V_iload_n (k := 3) (q := 47) hC 0 rfl dX7_between_46 rfl ?_
    exact V_iret hC hr hlk (re_1 hf) (re_2 hf) hw0 hs dX7_between_47
  · replace hf := (if_neg c4).symm.trans hf
    refine V_bipush (q := 41) hC (by decide) dX7_between_39 rfl ?_
    refine V_iload_n (k := 3) (q := 42) hC 0 rfl dX7_between_41 rfl ?_
    refine V_isub (q := 43) hC dX7_between_42 rfl ?_
    refine V_goto (tgt := 47) hC dX7_between_43 (by decide) ?_
    exact V_iret hC hr hlk (re_1 hf) (re_2 hf) (Rg_wr _) hs dX7_between_47
set_option maxHeartbeats 4000000 in
set_option maxRecDepth 100000 in
theorem sX7_between (l : Launch) {G : GT} (hG : GI G) {s0 : Nat} {j0 : Nat} {v1 : Int} {v2 : Int} (hi0 : InD s0 j0) (h1 : Rg v1) (h2 : Rg v2) {σ : Hp} (hs : RgS σ) {r0 : Int × Hp} (hf : fX7_between σ s0 j0 v1 v2 = some r0) : Cti l G yX7_between wsX7_between rmX7_between [rf G s0 j0, iv v1, iv v2] σ r0.1 r0.2 := by
  unfold fX7_between at hf
  refine Cti_start (lv := [(0, rf G s0 j0), (1, iv v1), (2, iv v2)]) (ret := (some .int)) (by decide +kernel) rfl hG (Nat.le_of_ble_eq_true rfl) rfl (fun p e s m args below meth c hC hr hlk => ?_)
  refine V_aload_n (k := 0) (q := 1) hC 0 rfl dX7_between_0 rfl ?_
  refine V_bipush (q := 3) hC (by decide) dX7_between_1 rfl ?_
  refine V_iconst (q := 4) hC dX7_between_3 rfl ?_
  refine V_iload_n (k := 1) (q := 5) hC 1 rfl dX7_between_4 rfl ?_
  refine V_imul (q := 6) hC dX7_between_5 rfl ?_
  refine V_iadd (q := 7) hC dX7_between_6 rfl ?_
  refine V_iconst (q := 8) hC dX7_between_7 rfl ?_
  refine V_iadd (q := 9) hC dX7_between_8 rfl ?_
  obtain ⟨g1, hf⟩ := gd_some hf
  refine V_iald (q := 10) hC hi0 rfl g1 (Rg_wr _) dX7_between_9 rfl ?_
  refine V_aload_n (k := 0) (q := 11) hC 0 rfl dX7_between_10 rfl ?_
  refine V_bipush (q := 13) hC (by decide) dX7_between_11 rfl ?_
  refine V_iconst (q := 14) hC dX7_between_13 rfl ?_
  refine V_iload_n (k := 2) (q := 15) hC 2 rfl dX7_between_14 rfl ?_
  refine V_imul (q := 16) hC dX7_between_15 rfl ?_
  refine V_iadd (q := 17) hC dX7_between_16 rfl ?_
  refine V_iconst (q := 18) hC dX7_between_17 rfl ?_
  refine V_iadd (q := 19) hC dX7_between_18 rfl ?_
  obtain ⟨g2, hf⟩ := gd_some hf
  refine V_iald (q := 20) hC hi0 rfl g2 (Rg_wr _) dX7_between_19 rfl ?_
  refine V_isub (q := 21) hC dX7_between_20 rfl ?_
  refine V_istore_n (k := 3) (i := 3) (lv' := [(0, rf G s0 j0), (1, iv v1), (2, iv v2), (3, iv (wr ((σ s0 j0 (wr ((wr (16 + (wr (4 * v1)))) + 2)).toNat) - (σ s0 j0 (wr ((wr (16 + (wr (4 * v2)))) + 2)).toNat))))]) (q := 22) hC [1, 2, 3, 0] rfl (by decide) rfl dX7_between_21 rfl ?_
  refine V_iload_n (k := 3) (q := 23) hC 3 rfl dX7_between_22 rfl ?_
  refine V_if_ge (tgt := 31) (q := 26) hC (Rg_wr _) dX7_between_23 (by decide) rfl (fun c3 => ?_) (fun c3 => ?_)
  · replace hf := (if_pos c3).symm.trans hf
    refine V_iload_n (k := 3) (q := 32) hC 3 rfl dX7_between_31 rfl ?_
    refine V_lsub [] rfl ?_
    exact tjX7_between_32 hG hC hr hlk hi0 hs (Rg_wr _) hf
  · replace hf := (if_neg c3).symm.trans hf
    refine V_iload_n (k := 3) (q := 27) hC 3 rfl dX7_between_26 rfl ?_
    refine V_ineg (q := 28) hC dX7_between_27 rfl ?_
    refine V_goto (tgt := 32) hC dX7_between_28 (by decide) ?_
    refine V_lsub [] rfl ?_
    exact tjX7_between_32 hG hC hr hlk hi0 hs (Rg_wr _) hf
/-! X7_apartIn -/
abbrev rmX7_apartIn : Room := { frames := 1, cells := 0, slots := 0, locals := 23 }
set_option maxHeartbeats 4000000 in
set_option maxRecDepth 100000 in
theorem sX7_apartIn (l : Launch) {G : GT} (hG : GI G) {s0 : Nat} {j0 : Nat} {v1 : Int} {v2 : Int} (hi0 : InD s0 j0) (h1 : Rg v1) (h2 : Rg v2) {σ : Hp} (hs : RgS σ) {r0 : Int × Hp} (hf : fX7_apartIn σ s0 j0 v1 v2 = some r0) : Cti l G yX7_apartIn wsX7_apartIn rmX7_apartIn [rf G s0 j0, iv v1, iv v2] σ r0.1 r0.2 := by
  unfold fX7_apartIn at hf
  refine Cti_start (lv := [(0, rf G s0 j0), (1, iv v1), (2, iv v2)]) (ret := (some .int)) (by decide +kernel) rfl hG (Nat.le_of_ble_eq_true rfl) rfl (fun p e s m args below meth c hC hr hlk => ?_)
  refine V_aload_n (k := 0) (q := 1) hC 0 rfl dX7_apartIn_0 rfl ?_
  refine V_iload_n (k := 1) (q := 2) hC 1 rfl dX7_apartIn_1 rfl ?_
  refine V_iload_n (k := 2) (q := 3) hC 2 rfl dX7_apartIn_2 rfl ?_
  obtain ⟨r1, σ2, hc3, hf⟩ := cl_some hf
  refine V_csi (st := []) (q := 6) (x0 := r1) (σ0 := σ2) hC (sX7_between l hG hi0 h1 h2 hs hc3) (va_cwS 3 hC.2.2.2.2.1 gX7_apartIn_X7_between rfl rfl rfl (by decide +kernel) ⟨Nat.le_of_ble_eq_true rfl, Nat.le_of_ble_eq_true rfl⟩) rfl rfl (Nat.le_of_ble_eq_true rfl) dX7_apartIn_3 rfl ⟨Nat.zero_le _, Nat.zero_le _⟩ (fun hr4 hs5 => ?_)
  refine V_aload_n (k := 0) (q := 7) hC 0 rfl dX7_apartIn_6 rfl ?_
  refine V_iconst (q := 8) hC dX7_apartIn_7 rfl ?_
  refine V_iconst (q := 9) hC dX7_apartIn_8 rfl ?_
  refine V_aload_n (k := 0) (q := 10) hC 0 rfl dX7_apartIn_9 rfl ?_
  refine V_bipush (q := 12) hC (by decide) dX7_apartIn_10 rfl ?_
  refine V_iconst (q := 13) hC dX7_apartIn_12 rfl ?_
  refine V_iload_n (k := 1) (q := 14) hC 1 rfl dX7_apartIn_13 rfl ?_
  refine V_imul (q := 15) hC dX7_apartIn_14 rfl ?_
  refine V_iadd (q := 16) hC dX7_apartIn_15 rfl ?_
  obtain ⟨g6, hf⟩ := gd_some hf
  refine V_iald (q := 17) hC hi0 rfl g6 (Rg_wr _) dX7_apartIn_16 rfl ?_
  refine V_imul (q := 18) hC dX7_apartIn_17 rfl ?_
  refine V_iadd (q := 19) hC dX7_apartIn_18 rfl ?_
  refine V_iconst (q := 20) hC dX7_apartIn_19 rfl ?_
  refine V_iadd (q := 21) hC dX7_apartIn_20 rfl ?_
  obtain ⟨g7, hf⟩ := gd_some hf
  refine V_iald (q := 22) hC hi0 rfl g7 (Rg_wr _) dX7_apartIn_21 rfl ?_
  refine V_imul (q := 23) hC dX7_apartIn_22 rfl ?_
  refine V_bipush (q := 25) hC (by decide) dX7_apartIn_23 rfl ?_
  refine V_idiv (q := 26) hC (Rg_wr _) (Rg_c rfl) (by decide) dX7_apartIn_25 rfl ?_
  exact V_iret hC hr hlk (re_1 hf) (re_2 hf) (Rg_qdiv _ _) hs5 dX7_apartIn_26
/-! X7_ringOf -/
abbrev rmX7_ringOf : Room := { frames := 2, cells := 0, slots := 0, locals := 45 }
set_option maxHeartbeats 4000000 in
set_option maxRecDepth 100000 in
theorem tlX7_ringOf_19 {p : Program} {l : Launch} {e : Env} {s : State} {m : MethodId} {args : Array Value} {below : List Frame} {meth : Method} {c : Code} {G : GT} (hG : GI G) (hC : CX p s m args c cX7_ringOf 7 RX7 wsX7_ringOf G (AA G)) (hr : meth.sig.returnType = (some .int)) (hlk : meth.locks = false) {s0 : Nat} {j0 : Nat} (hi0 : InD s0 j0) {r0 : Int × Hp} : ∀ n : Nat, (∀ {σ : Hp} (hs : RgS σ) {v2 : Int} {v3 : Int} {v4 : Int} (h2 : Rg v2) (h3 : Rg v3) (h4 : Rg v4) (hf : lX7_ringOf_19 n 0 σ s0 j0 v2 v3 v4 0 0 = some r0), VV p l e (headSpec wsX7_ringOf rmX7_ringOf).room s m args below meth c (MQ below (QI G r0.1 r0.2) args s 0 0 (AA G)) G (AA G) 0 0 7 σ 19 [(0, rf G s0 j0), (2, iv v2), (3, iv v3), (4, iv v4)] []) ∧ (∀ {σ : Hp} (hs : RgS σ) {v2 : Int} {v3 : Int} {v4 : Int} {v5 : Int} (h2 : Rg v2) (h3 : Rg v3) (h4 : Rg v4) (h5 : Rg v5) (hf : lX7_ringOf_19 n 1 σ s0 j0 v2 v3 v4 v5 0 = some r0), VV p l e (headSpec wsX7_ringOf rmX7_ringOf).room s m args below meth c (MQ below (QI G r0.1 r0.2) args s 0 0 (AA G)) G (AA G) 0 0 7 σ 31 [(0, rf G s0 j0), (2, iv v2), (3, iv v3), (4, iv v4), (5, iv v5)] []) ∧ (∀ {σ : Hp} (hs : RgS σ) {v2 : Int} {v3 : Int} {v4 : Int} {v5 : Int} {v6 : Int} (h2 : Rg v2) (h3 : Rg v3) (h4 : Rg v4) (h5 : Rg v5) (h6 : Rg v6) (hf : lX7_ringOf_19 n 2 σ s0 j0 v2 v3 v4 v5 v6 = some r0), VV p l e (headSpec wsX7_ringOf rmX7_ringOf).room s m args below meth c (MQ below (QI G r0.1 r0.2) args s 0 0 (AA G)) G (AA G) 0 0 7 σ 42 [(0, rf G s0 j0), (2, iv v2), (3, iv v3), (4, iv v4), (5, iv v5), (6, iv v6)] []) := by
  intro n
  induction n with
  | zero =>
    exact ⟨by intro σ hs v2 v3 v4 h2 h3 h4 hf; exact absurd (show (none : Option (Int × Hp)) = some r0 from hf) (fun z => by cases z), by intro σ hs v2 v3 v4 v5 h2 h3 h4 h5 hf; exact absurd (show (none : Option (Int × Hp)) = some r0 from hf) (fun z => by cases z), by intro σ hs v2 v3 v4 v5 v6 h2 h3 h4 h5 h6 hf; exact absurd (show (none : Option (Int × Hp)) = some r0 from hf) (fun z => by cases z)⟩
  | succ n ih =>
    refine ⟨?_, ?_, ?_⟩
    · intro σ hs v2 v3 v4 h2 h3 h4 hf
      replace hf := (lX7_ringOf_19_e0 n σ s0 j0 v2 v3 v4 0 0).symm.trans hf
      refine V_iload_n (k := 3) (q := 20) hC 2 rfl dX7_ringOf_19 rfl ?_
      refine V_iload (k := 4) (q := 22) hC 3 rfl dX7_ringOf_20 rfl ?_
      refine V_icmp_eq (tgt := 108) (q := 25) hC h3 h4 dX7_ringOf_22 (by decide) rfl (fun c3 => ?_) (fun c3 => ?_)
      · replace hf := (if_pos c3).symm.trans hf
        refine V_iload_n (k := 3) (q := 109) hC 2 rfl dX7_ringOf_108 rfl ?_
        exact V_iret hC hr hlk (re_1 hf) (re_2 hf) h3 hs dX7_ringOf_109
      · replace hf := (if_neg c3).symm.trans hf
        refine V_iload_n (k := 3) (q := 26) hC 2 rfl dX7_ringOf_25 rfl ?_
        refine V_istore (i := 4) (lv' := [(0, rf G s0 j0), (2, iv v2), (3, iv v3), (4, iv v3)]) (q := 28) hC [1, 2, 3, 0] (by decide) rfl dX7_ringOf_26 rfl ?_
        refine V_iconst (q := 29) hC dX7_ringOf_28 rfl ?_
        refine V_istore (i := 5) (lv' := [(0, rf G s0 j0), (2, iv v2), (3, iv v3), (4, iv v3), (5, iv 0)]) (q := 31) hC [1, 2, 3, 4, 0] (by decide) rfl dX7_ringOf_29 rfl ?_
        refine V_lsub [0, 1, 2, 3, 4] rfl ?_
        exact ih.2.1 hs h2 h3 h3 (Rg_c rfl) hf
    · intro σ hs v2 v3 v4 v5 h2 h3 h4 h5 hf
      replace hf := (lX7_ringOf_19_e1 n σ s0 j0 v2 v3 v4 v5 0).symm.trans hf
      refine V_iload (k := 5) (q := 33) hC 4 rfl dX7_ringOf_31 rfl ?_
      refine V_aload_n (k := 0) (q := 34) hC 0 rfl dX7_ringOf_33 rfl ?_
      refine V_iconst (q := 35) hC dX7_ringOf_34 rfl ?_
      obtain ⟨g4, hf⟩ := gd_some hf
      refine V_iald (q := 36) hC hi0 rfl g4 (Rg_c rfl) dX7_ringOf_35 rfl ?_
      refine V_icmp_ge (tgt := 105) (q := 39) hC h5 (hs _ _ _) dX7_ringOf_36 (by decide) rfl (fun c5 => ?_) (fun c5 => ?_)
      · replace hf := (if_pos c5).symm.trans hf
        refine V_goto (tgt := 19) hC dX7_ringOf_105 (by decide) ?_
        refine V_lsub [0, 1, 2, 3] rfl ?_
        exact ih.1 hs h2 h3 h4 hf
      · replace hf := (if_neg c5).symm.trans hf
        refine V_iconst (q := 40) hC dX7_ringOf_39 rfl ?_
        refine V_istore (i := 6) (lv' := [(0, rf G s0 j0), (2, iv v2), (3, iv v3), (4, iv v4), (5, iv v5), (6, iv 0)]) (q := 42) hC [1, 2, 3, 4, 5, 0] (by decide) rfl dX7_ringOf_40 rfl ?_
        refine V_lsub [0, 1, 2, 3, 4, 5] rfl ?_
        exact ih.2.2 hs h2 h3 h4 h5 (Rg_c rfl) hf
    · intro σ hs v2 v3 v4 v5 v6 h2 h3 h4 h5 h6 hf
      replace hf := (lX7_ringOf_19_e2 n σ s0 j0 v2 v3 v4 v5 v6).symm.trans hf
      refine V_iload (k := 6) (q := 44) hC 5 rfl dX7_ringOf_42 rfl ?_
      refine V_aload_n (k := 0) (q := 45) hC 0 rfl dX7_ringOf_44 rfl ?_
      refine V_iconst (q := 46) hC dX7_ringOf_45 rfl ?_
      obtain ⟨g6, hf⟩ := gd_some hf
      refine V_iald (q := 47) hC hi0 rfl g6 (Rg_c rfl) dX7_ringOf_46 rfl ?_
      refine V_icmp_ge (tgt := 99) (q := 50) hC h6 (hs _ _ _) dX7_ringOf_47 (by decide) rfl (fun c7 => ?_) (fun c7 => ?_)
      · replace hf := (if_pos c7).symm.trans hf
        refine V_iinc (i := 5) (lv' := [(0, rf G s0 j0), (2, iv v2), (3, iv v3), (4, iv v4), (5, iv (wr (v5 + 1))), (6, iv v6)]) (q := 102) hC 4 rfl [1, 2, 3, 4, 0, 5] (by decide) rfl dX7_ringOf_99 rfl ?_
        refine V_goto (tgt := 31) hC dX7_ringOf_102 (by decide) ?_
        refine V_lsub [0, 1, 2, 3, 4] rfl ?_
        exact ih.2.1 hs h2 h3 h4 (Rg_wr _) hf
      · replace hf := (if_neg c7).symm.trans hf
        refine V_iload_n (k := 3) (q := 51) hC 2 rfl dX7_ringOf_50 rfl ?_
        refine V_iload_n (k := 3) (q := 52) hC 2 rfl dX7_ringOf_51 rfl ?_
        refine V_iload (k := 5) (q := 54) hC 4 rfl dX7_ringOf_52 rfl ?_
        refine V_csi (st := [iv v3]) (q := 57) hC (sX7_has l hG h3 h5 hs) (va_cwS 2 hC.2.2.2.2.1 gX7_ringOf_X7_has rfl rfl rfl (by decide +kernel) ⟨Nat.le_of_ble_eq_true rfl, Nat.le_of_ble_eq_true rfl⟩) rfl rfl (Nat.le_of_ble_eq_true rfl) dX7_ringOf_54 rfl ⟨Nat.zero_le _, Nat.zero_le _⟩ (fun hr8 _ => ?_)
        refine V_if_eq (tgt := 90) (q := 60) hC hr8 dX7_ringOf_57 (by decide) rfl (fun c9 => ?_) (fun c9 => ?_)
        · replace hf := (if_pos c9).symm.trans hf
          refine V_iconst (q := 91) hC dX7_ringOf_90 rfl ?_
          refine V_ior (q := 92) hC dX7_ringOf_91 rfl ?_
          refine V_istore_n (k := 3) (i := 3) (lv' := [(0, rf G s0 j0), (2, iv v2), (3, iv (qor v3 0)), (4, iv v4), (5, iv v5), (6, iv v6)]) (q := 93) hC [1, 2, 0, 3, 4, 5] rfl (by decide) rfl dX7_ringOf_92 rfl ?_
          refine V_iinc (i := 6) (lv' := [(0, rf G s0 j0), (2, iv v2), (3, iv (qor v3 0)), (4, iv v4), (5, iv v5), (6, iv (wr (v6 + 1)))]) (q := 96) hC 5 rfl [1, 2, 3, 4, 5, 0] (by decide) rfl dX7_ringOf_93 rfl ?_
          refine V_goto (tgt := 42) hC dX7_ringOf_96 (by decide) ?_
          refine V_lsub [0, 1, 2, 3, 4, 5] rfl ?_
          exact ih.2.2 hs h2 (Rg_qor _ _) h4 h5 (Rg_wr _) hf
        · replace hf := (if_neg c9).symm.trans hf
          refine V_iload_n (k := 2) (q := 61) hC 1 rfl dX7_ringOf_60 rfl ?_
          refine V_iload (k := 6) (q := 63) hC 5 rfl dX7_ringOf_61 rfl ?_
          refine V_csi (st := [iv v3]) (q := 66) hC (sX7_has l hG h2 h6 hs) (va_cwS 2 hC.2.2.2.2.1 gX7_ringOf_X7_has rfl rfl rfl (by decide +kernel) ⟨Nat.le_of_ble_eq_true rfl, Nat.le_of_ble_eq_true rfl⟩) rfl rfl (Nat.le_of_ble_eq_true rfl) dX7_ringOf_63 rfl ⟨Nat.zero_le _, Nat.zero_le _⟩ (fun hr10 _ => ?_)
          refine V_if_eq (tgt := 90) (q := 69) hC hr10 dX7_ringOf_66 (by decide) rfl (fun c11 => ?_) (fun c11 => ?_)
          · replace hf := (if_pos c11).symm.trans hf
            refine V_iconst (q := 91) hC dX7_ringOf_90 rfl ?_
            refine V_ior (q := 92) hC dX7_ringOf_91 rfl ?_
            refine V_istore_n (k := 3) (i := 3) (lv' := [(0, rf G s0 j0), (2, iv v2), (3, iv (qor v3 0)), (4, iv v4), (5, iv v5), (6, iv v6)]) (q := 93) hC [1, 2, 0, 3, 4, 5] rfl (by decide) rfl dX7_ringOf_92 rfl ?_
            refine V_iinc (i := 6) (lv' := [(0, rf G s0 j0), (2, iv v2), (3, iv (qor v3 0)), (4, iv v4), (5, iv v5), (6, iv (wr (v6 + 1)))]) (q := 96) hC 5 rfl [1, 2, 3, 4, 5, 0] (by decide) rfl dX7_ringOf_93 rfl ?_
            refine V_goto (tgt := 42) hC dX7_ringOf_96 (by decide) ?_
            refine V_lsub [0, 1, 2, 3, 4, 5] rfl ?_
            exact ih.2.2 hs h2 (Rg_qor _ _) h4 h5 (Rg_wr _) hf
          · replace hf := (if_neg c11).symm.trans hf
            refine V_aload_n (k := 0) (q := 70) hC 0 rfl dX7_ringOf_69 rfl ?_
            refine V_iload (k := 5) (q := 72) hC 4 rfl dX7_ringOf_70 rfl ?_
            refine V_iload (k := 6) (q := 74) hC 5 rfl dX7_ringOf_72 rfl ?_
            obtain ⟨r12, σ13, hc14, hf⟩ := cl_some hf
            refine V_csi (st := [iv v3]) (q := 77) (x0 := r12) (σ0 := σ13) hC (sX7_apartIn l hG hi0 h5 h6 hs hc14) (va_cwS 3 hC.2.2.2.2.1 gX7_ringOf_X7_apartIn rfl rfl rfl (by decide +kernel) ⟨Nat.le_of_ble_eq_true rfl, Nat.le_of_ble_eq_true rfl⟩) rfl rfl (Nat.le_of_ble_eq_true rfl) dX7_ringOf_74 rfl ⟨Nat.zero_le _, Nat.zero_le _⟩ (fun hr15 hs16 => ?_)
            refine V_aload_n (k := 0) (q := 78) hC 0 rfl dX7_ringOf_77 rfl ?_
            refine V_iconst (q := 79) hC dX7_ringOf_78 rfl ?_
            obtain ⟨g17, hf⟩ := gd_some hf
            refine V_iald (q := 80) hC hi0 rfl g17 (Rg_c rfl) dX7_ringOf_79 rfl ?_
            refine V_icmp_gt (tgt := 90) (q := 83) hC hr15 (hs16 _ _ _) dX7_ringOf_80 (by decide) rfl (fun c18 => ?_) (fun c18 => ?_)
            · replace hf := (if_pos c18).symm.trans hf
              refine V_iconst (q := 91) hC dX7_ringOf_90 rfl ?_
              refine V_ior (q := 92) hC dX7_ringOf_91 rfl ?_
              refine V_istore_n (k := 3) (i := 3) (lv' := [(0, rf G s0 j0), (2, iv v2), (3, iv (qor v3 0)), (4, iv v4), (5, iv v5), (6, iv v6)]) (q := 93) hC [1, 2, 0, 3, 4, 5] rfl (by decide) rfl dX7_ringOf_92 rfl ?_
              refine V_iinc (i := 6) (lv' := [(0, rf G s0 j0), (2, iv v2), (3, iv (qor v3 0)), (4, iv v4), (5, iv v5), (6, iv (wr (v6 + 1)))]) (q := 96) hC 5 rfl [1, 2, 3, 4, 5, 0] (by decide) rfl dX7_ringOf_93 rfl ?_
              refine V_goto (tgt := 42) hC dX7_ringOf_96 (by decide) ?_
              refine V_lsub [0, 1, 2, 3, 4, 5] rfl ?_
              exact ih.2.2 hs16 h2 (Rg_qor _ _) h4 h5 (Rg_wr _) hf
            · replace hf := (if_neg c18).symm.trans hf
              refine V_iconst (q := 84) hC dX7_ringOf_83 rfl ?_
              refine V_iload (k := 6) (q := 86) hC 5 rfl dX7_ringOf_84 rfl ?_
              refine V_ishl (q := 87) hC dX7_ringOf_86 rfl ?_
              refine V_goto (tgt := 91) hC dX7_ringOf_87 (by decide) ?_
              refine V_ior (q := 92) hC dX7_ringOf_91 rfl ?_
              refine V_istore_n (k := 3) (i := 3) (lv' := [(0, rf G s0 j0), (2, iv v2), (3, iv (qor v3 (qshl 1 v6))), (4, iv v4), (5, iv v5), (6, iv v6)]) (q := 93) hC [1, 2, 0, 3, 4, 5] rfl (by decide) rfl dX7_ringOf_92 rfl ?_
              refine V_iinc (i := 6) (lv' := [(0, rf G s0 j0), (2, iv v2), (3, iv (qor v3 (qshl 1 v6))), (4, iv v4), (5, iv v5), (6, iv (wr (v6 + 1)))]) (q := 96) hC 5 rfl [1, 2, 3, 4, 5, 0] (by decide) rfl dX7_ringOf_93 rfl ?_
              refine V_goto (tgt := 42) hC dX7_ringOf_96 (by decide) ?_
              refine V_lsub [0, 1, 2, 3, 4, 5] rfl ?_
              exact ih.2.2 hs16 h2 (Rg_qor _ _) h4 h5 (Rg_wr _) hf
set_option maxHeartbeats 4000000 in
set_option maxRecDepth 100000 in
theorem sX7_ringOf (l : Launch) {G : GT} (hG : GI G) {s0 : Nat} {j0 : Nat} {v1 : Int} {v2 : Int} (hi0 : InD s0 j0) (h1 : Rg v1) (h2 : Rg v2) {σ : Hp} (hs : RgS σ) {r0 : Int × Hp} (hf : fX7_ringOf σ s0 j0 v1 v2 = some r0) : Cti l G yX7_ringOf wsX7_ringOf rmX7_ringOf [rf G s0 j0, iv v1, iv v2] σ r0.1 r0.2 := by
  unfold fX7_ringOf at hf
  refine Cti_start (lv := [(0, rf G s0 j0), (1, iv v1), (2, iv v2)]) (ret := (some .int)) (by decide +kernel) rfl hG (Nat.le_of_ble_eq_true rfl) rfl (fun p e s m args below meth c hC hr hlk => ?_)
  refine V_iload_n (k := 2) (q := 1) hC 2 rfl dX7_ringOf_0 rfl ?_
  refine V_iload_n (k := 1) (q := 2) hC 1 rfl dX7_ringOf_1 rfl ?_
  refine V_csi (st := []) (q := 5) hC (sX7_has l hG h2 h1 hs) (va_cwS 2 hC.2.2.2.2.1 gX7_ringOf_X7_has rfl rfl rfl (by decide +kernel) ⟨Nat.le_of_ble_eq_true rfl, Nat.le_of_ble_eq_true rfl⟩) rfl rfl (Nat.le_of_ble_eq_true rfl) dX7_ringOf_2 rfl ⟨Nat.zero_le _, Nat.zero_le _⟩ (fun hr1 _ => ?_)
  refine V_if_eq (tgt := 14) (q := 8) hC hr1 dX7_ringOf_5 (by decide) rfl (fun c2 => ?_) (fun c2 => ?_)
  · replace hf := (if_pos c2).symm.trans hf
    refine V_iconst (q := 15) hC dX7_ringOf_14 rfl ?_
    refine V_istore_n (k := 3) (i := 3) (lv' := [(0, rf G s0 j0), (1, iv v1), (2, iv v2), (3, iv 0)]) (q := 16) hC [1, 2, 3, 0] rfl (by decide) rfl dX7_ringOf_15 rfl ?_
    refine V_iconst (q := 17) hC dX7_ringOf_16 rfl ?_
    refine V_istore (i := 4) (lv' := [(0, rf G s0 j0), (1, iv v1), (2, iv v2), (3, iv 0), (4, iv 0)]) (q := 19) hC [1, 2, 3, 4, 0] (by decide) rfl dX7_ringOf_17 rfl ?_
    refine V_lsub [0, 2, 3, 4] rfl ?_
    exact (tlX7_ringOf_19 hG hC hr hlk hi0 FU).1 hs h2 (Rg_c rfl) (Rg_c rfl) hf
  · replace hf := (if_neg c2).symm.trans hf
    refine V_iconst (q := 9) hC dX7_ringOf_8 rfl ?_
    refine V_iload_n (k := 1) (q := 10) hC 1 rfl dX7_ringOf_9 rfl ?_
    refine V_ishl (q := 11) hC dX7_ringOf_10 rfl ?_
    refine V_goto (tgt := 15) hC dX7_ringOf_11 (by decide) ?_
    refine V_istore_n (k := 3) (i := 3) (lv' := [(0, rf G s0 j0), (1, iv v1), (2, iv v2), (3, iv (qshl 1 v1))]) (q := 16) hC [1, 2, 3, 0] rfl (by decide) rfl dX7_ringOf_15 rfl ?_
    refine V_iconst (q := 17) hC dX7_ringOf_16 rfl ?_
    refine V_istore (i := 4) (lv' := [(0, rf G s0 j0), (1, iv v1), (2, iv v2), (3, iv (qshl 1 v1)), (4, iv 0)]) (q := 19) hC [1, 2, 3, 4, 0] (by decide) rfl dX7_ringOf_17 rfl ?_
    refine V_lsub [0, 2, 3, 4] rfl ?_
    exact (tlX7_ringOf_19 hG hC hr hlk hi0 FU).1 hs h2 (Rg_qshl _ _) (Rg_c rfl) hf
/-! X7_areTogether -/
abbrev rmX7_areTogether : Room := { frames := 3, cells := 0, slots := 0, locals := 71 }
set_option maxHeartbeats 4000000 in
set_option maxRecDepth 100000 in
theorem sX7_areTogether (l : Launch) {G : GT} (hG : GI G) {s0 : Nat} {j0 : Nat} {v1 : Int} {v2 : Int} {v3 : Int} (hi0 : InD s0 j0) (h1 : Rg v1) (h2 : Rg v2) (h3 : Rg v3) {σ : Hp} (hs : RgS σ) {r0 : Int × Hp} (hf : fX7_areTogether σ s0 j0 v1 v2 v3 = some r0) : Cti l G yX7_areTogether wsX7_areTogether rmX7_areTogether [rf G s0 j0, iv v1, iv v2, iv v3] σ r0.1 r0.2 := by
  unfold fX7_areTogether at hf
  refine Cti_start (lv := [(0, rf G s0 j0), (1, iv v1), (2, iv v2), (3, iv v3)]) (ret := (some .boolean)) (by decide +kernel) rfl hG (Nat.le_of_ble_eq_true rfl) rfl (fun p e s m args below meth c hC hr hlk => ?_)
  refine V_aload_n (k := 0) (q := 1) hC 0 rfl dX7_areTogether_0 rfl ?_
  refine V_iload_n (k := 1) (q := 2) hC 1 rfl dX7_areTogether_1 rfl ?_
  refine V_aload_n (k := 0) (q := 3) hC 0 rfl dX7_areTogether_2 rfl ?_
  refine V_aload_n (k := 0) (q := 4) hC 0 rfl dX7_areTogether_3 rfl ?_
  refine V_bipush (q := 6) hC (by decide) dX7_areTogether_4 rfl ?_
  refine V_iconst (q := 7) hC dX7_areTogether_6 rfl ?_
  refine V_iload_n (k := 1) (q := 8) hC 1 rfl dX7_areTogether_7 rfl ?_
  refine V_imul (q := 9) hC dX7_areTogether_8 rfl ?_
  refine V_iadd (q := 10) hC dX7_areTogether_9 rfl ?_
  obtain ⟨g1, hf⟩ := gd_some hf
  refine V_iald (q := 11) hC hi0 rfl g1 (Rg_wr _) dX7_areTogether_10 rfl ?_
  obtain ⟨r2, σ3, hc4, hf⟩ := cl_some hf
  refine V_csi (st := [iv v1, rf G s0 j0]) (q := 14) (x0 := r2) (σ0 := σ3) hC (sX7_legible l hG hi0 (hs _ _ _) hs hc4) (va_cwS 2 hC.2.2.2.2.1 gX7_areTogether_X7_legible rfl rfl rfl (by decide +kernel) ⟨Nat.le_of_ble_eq_true rfl, Nat.le_of_ble_eq_true rfl⟩) rfl rfl (Nat.le_of_ble_eq_true rfl) dX7_areTogether_11 rfl ⟨Nat.zero_le _, Nat.zero_le _⟩ (fun hr5 hs6 => ?_)
  refine V_iload_n (k := 3) (q := 15) hC 3 rfl dX7_areTogether_14 rfl ?_
  refine V_iconst (q := 16) hC dX7_areTogether_15 rfl ?_
  refine V_ixor (q := 17) hC dX7_areTogether_16 rfl ?_
  refine V_iand (q := 18) hC dX7_areTogether_17 rfl ?_
  obtain ⟨r7, σ8, hc9, hf⟩ := cl_some hf
  refine V_csi (st := []) (q := 21) (x0 := r7) (σ0 := σ8) hC (sX7_ringOf l hG hi0 h1 (Rg_qand _ _) hs6 hc9) (va_cwS 3 hC.2.2.2.2.1 gX7_areTogether_X7_ringOf rfl rfl rfl (by decide +kernel) ⟨Nat.le_of_ble_eq_true rfl, Nat.le_of_ble_eq_true rfl⟩) rfl rfl (Nat.le_of_ble_eq_true rfl) dX7_areTogether_18 rfl ⟨Nat.zero_le _, Nat.zero_le _⟩ (fun hr10 hs11 => ?_)
  refine V_iload_n (k := 2) (q := 22) hC 2 rfl dX7_areTogether_21 rfl ?_
  refine V_csi (st := []) (q := 25) hC (sX7_has l hG hr10 h2 hs11) (va_cwS 2 hC.2.2.2.2.1 gX7_areTogether_X7_has rfl rfl rfl (by decide +kernel) ⟨Nat.le_of_ble_eq_true rfl, Nat.le_of_ble_eq_true rfl⟩) rfl rfl (Nat.le_of_ble_eq_true rfl) dX7_areTogether_22 rfl ⟨Nat.zero_le _, Nat.zero_le _⟩ (fun hr12 _ => ?_)
  exact V_zret hC hr hlk (zX7_has _ _) (re_1 hf) (re_2 hf) hs11 dX7_areTogether_25
/-! X7_notes -/
theorem kX7_notes_f139 : Cond.fieldLink RX7 139 "BarkNamesModel" "acts" "I" ∈ wsX7_notes := by decide +kernel
theorem uX7_notes_7 : ∀ w ∈ u_ws RX7 TX7 22, w ∈ wsX7_notes := by decide +kernel
theorem kX7_notes_f31 : Cond.fieldLink RX7 31 "BarkNamesModel" "past" "[I" ∈ wsX7_notes := by decide +kernel
theorem kX7_notes_f25 : Cond.fieldLink RX7 25 "BarkNamesModel" "now" "[I" ∈ wsX7_notes := by decide +kernel
abbrev rmX7_notes : Room := { frames := 1, cells := 0, slots := 0, locals := 24 }
set_option maxHeartbeats 4000000 in
set_option maxRecDepth 100000 in
theorem tjX7_notes_49 {p : Program} {l : Launch} {e : Env} {s : State} {m : MethodId} {args : Array Value} {below : List Frame} {meth : Method} {c : Code} {G : GT} (hG : GI G) (hC : CX p s m args c cX7_notes 2 RX7 wsX7_notes G (AA G)) (hr : meth.sig.returnType = none) (hlk : meth.locks = false) {r0 : Int × Hp} {σ : Hp} (hs : RgS σ) (hf : jX7_notes_49 σ = some r0) : VV p l e (headSpec wsX7_notes rmX7_notes).room s m args below meth c (MQ below (QV G r0.2) args s 0 0 (AA G)) G (AA G) 0 0 2 σ 49 [(0, rf G 7 0)] [] := by
  unfold jX7_notes_49 at hf
  refine V_aload_n (k := 0) (q := 50) hC 0 rfl dX7_notes_49 rfl ?_
  refine V_getf (T := TX7) (k := 13) (q := 53) hC uX7_notes_7 rfl iD7 rfl (by decide) kX7_notes_f25 rfl dX7_notes_50 rfl ?_
  refine V_iconst (q := 54) hC dX7_notes_53 rfl ?_
  refine V_aload_n (k := 0) (q := 55) hC 0 rfl dX7_notes_54 rfl ?_
  refine V_getf (T := TX7) (k := 15) (q := 58) hC uX7_notes_7 rfl iD7 rfl (by decide) kX7_notes_f31 rfl dX7_notes_55 rfl ?_
  refine V_bipush (q := 60) hC (by decide) dX7_notes_58 rfl ?_
  refine V_aload_n (k := 0) (q := 61) hC 0 rfl dX7_notes_60 rfl ?_
  refine V_getf (T := TX7) (k := 16) (q := 64) hC uX7_notes_7 rfl iD7 rfl (by decide) kX7_notes_f139 rfl dX7_notes_61 rfl ?_
  refine V_imul (q := 65) hC dX7_notes_64 rfl ?_
  obtain ⟨r11, σ12, hc13, hf⟩ := cl_some hf
  refine V_csv (st := []) (q := 68) (σ0 := σ12) hC (sX7_copies l hG iD27 (Rg_c rfl) iD29 (Rg_wr _) hs hc13) (va_cwS 4 hC.2.2.2.2.1 gX7_notes_X7_copies rfl rfl rfl (by decide +kernel) ⟨Nat.le_of_ble_eq_true rfl, Nat.le_of_ble_eq_true rfl⟩) rfl rfl (Nat.le_of_ble_eq_true rfl) dX7_notes_65 rfl ⟨Nat.zero_le _, Nat.zero_le _⟩ (fun hs15 => ?_)
  refine V_aload_n (k := 0) (q := 69) hC 0 rfl dX7_notes_68 rfl ?_
  refine V_dup (q := 70) hC rfl dX7_notes_69 rfl ?_
  refine V_getf (T := TX7) (k := 16) (q := 73) hC uX7_notes_7 rfl iD7 rfl (by decide) kX7_notes_f139 rfl dX7_notes_70 rfl ?_
  refine V_iconst (q := 74) hC dX7_notes_73 rfl ?_
  refine V_iadd (q := 75) hC dX7_notes_74 rfl ?_
  obtain ⟨σ16, e17, hf⟩ := sq_ex hf
  have hs18 : RgS σ16 := by rw [e17]; exact RgS_hup hs15 (Rg_wr _)
  refine V_putf (T := TX7) (k := 16) (ty := .int) (q := 78) hC uX7_notes_7 rfl tyX7 tyX7_ok nmX7 iD7 rfl (pf_7_16 _ _ _ _ rfl) (by decide) kX7_notes_f139 rfl (by decide +kernel) rfl rfl (Nat.le_of_ble_eq_true rfl) e17 dX7_notes_75 rfl ?_
  exact V_vret hC hr hlk (re_2 hf) hs18 dX7_notes_78
set_option maxHeartbeats 4000000 in
set_option maxRecDepth 100000 in
theorem tlX7_notes_11 {p : Program} {l : Launch} {e : Env} {s : State} {m : MethodId} {args : Array Value} {below : List Frame} {meth : Method} {c : Code} {G : GT} (hG : GI G) (hC : CX p s m args c cX7_notes 2 RX7 wsX7_notes G (AA G)) (hr : meth.sig.returnType = none) (hlk : meth.locks = false) {r0 : Int × Hp} : ∀ n : Nat, (∀ {σ : Hp} (hs : RgS σ) {v1 : Int} (h1 : Rg v1) (hf : lX7_notes_11 n σ v1 = some r0), VV p l e (headSpec wsX7_notes rmX7_notes).room s m args below meth c (MQ below (QV G r0.2) args s 0 0 (AA G)) G (AA G) 0 0 2 σ 11 [(0, rf G 7 0), (1, iv v1)] []) := by
  intro n
  induction n with
  | zero =>
    exact by intro σ hs v1 h1 hf; exact absurd (show (none : Option (Int × Hp)) = some r0 from hf) (fun z => by cases z)
  | succ n ih =>
    intro σ hs v1 h1 hf
    replace hf := (lX7_notes_11_e0 n σ v1).symm.trans hf
    refine V_iload_n (k := 1) (q := 12) hC 1 rfl dX7_notes_11 rfl ?_
    refine V_sipush (q := 15) hC (by decide) dX7_notes_12 rfl ?_
    refine V_icmp_ge (tgt := 39) (q := 18) hC h1 (Rg_c rfl) dX7_notes_15 (by decide) rfl (fun c2 => ?_) (fun c2 => ?_)
    · replace hf := (if_pos c2).symm.trans hf
      refine V_aload_n (k := 0) (q := 40) hC 0 rfl dX7_notes_39 rfl ?_
      refine V_dup (q := 41) hC rfl dX7_notes_40 rfl ?_
      refine V_getf (T := TX7) (k := 16) (q := 44) hC uX7_notes_7 rfl iD7 rfl (by decide) kX7_notes_f139 rfl dX7_notes_41 rfl ?_
      refine V_iconst (q := 45) hC dX7_notes_44 rfl ?_
      refine V_isub (q := 46) hC dX7_notes_45 rfl ?_
      obtain ⟨σ3, e4, hf⟩ := sq_ex hf
      have hs5 : RgS σ3 := by rw [e4]; exact RgS_hup hs (Rg_wr _)
      refine V_putf (T := TX7) (k := 16) (ty := .int) (q := 49) hC uX7_notes_7 rfl tyX7 tyX7_ok nmX7 iD7 rfl (pf_7_16 _ _ _ _ rfl) (by decide) kX7_notes_f139 rfl (by decide +kernel) rfl rfl (Nat.le_of_ble_eq_true rfl) e4 dX7_notes_46 rfl ?_
      refine V_lsub [0] rfl ?_
      exact tjX7_notes_49 hG hC hr hlk hs5  hf
    · replace hf := (if_neg c2).symm.trans hf
      refine V_aload_n (k := 0) (q := 19) hC 0 rfl dX7_notes_18 rfl ?_
      refine V_getf (T := TX7) (k := 15) (q := 22) hC uX7_notes_7 rfl iD7 rfl (by decide) kX7_notes_f31 rfl dX7_notes_19 rfl ?_
      refine V_iload_n (k := 1) (q := 23) hC 1 rfl dX7_notes_22 rfl ?_
      refine V_aload_n (k := 0) (q := 24) hC 0 rfl dX7_notes_23 rfl ?_
      refine V_getf (T := TX7) (k := 15) (q := 27) hC uX7_notes_7 rfl iD7 rfl (by decide) kX7_notes_f31 rfl dX7_notes_24 rfl ?_
      refine V_iload_n (k := 1) (q := 28) hC 1 rfl dX7_notes_27 rfl ?_
      refine V_bipush (q := 30) hC (by decide) dX7_notes_28 rfl ?_
      refine V_iadd (q := 31) hC dX7_notes_30 rfl ?_
      obtain ⟨g6, hf⟩ := gd_some hf
      refine V_iald (n := 1152) (q := 32) hC iD29 rfl g6 (Rg_wr _) dX7_notes_31 rfl ?_
      obtain ⟨g7, hf⟩ := gd_some hf
      obtain ⟨σ8, e9, hf⟩ := sq_ex hf
      have hs10 : RgS σ8 := by rw [e9]; exact RgS_hup hs (hs _ _ _)
      refine V_iast (n := 1152) (q := 33) hC iD29 rfl g7 h1 e9 dX7_notes_32 rfl ?_
      refine V_iinc (i := 1) (lv' := [(0, rf G 7 0), (1, iv (wr (v1 + 1)))]) (q := 36) hC 1 rfl [1, 0] (by decide) rfl dX7_notes_33 rfl ?_
      refine V_goto (tgt := 11) hC dX7_notes_36 (by decide) ?_
      refine V_lsub [0, 1] rfl ?_
      exact ih hs10 (Rg_wr _) hf
set_option maxHeartbeats 4000000 in
set_option maxRecDepth 100000 in
theorem sX7_notes (l : Launch) {G : GT} (hG : GI G) {σ : Hp} (hs : RgS σ) {r0 : Int × Hp} (hf : fX7_notes σ = some r0) : Ctv l G yX7_notes wsX7_notes rmX7_notes [rf G 7 0] σ r0.2 := by
  unfold fX7_notes at hf
  refine Ctv_start (lv := [(0, rf G 7 0)]) (ret := none) (by decide +kernel) rfl hG (Nat.le_of_ble_eq_true rfl) rfl (fun p e s m args below meth c hC hr hlk => ?_)
  refine V_aload_n (k := 0) (q := 1) hC 0 rfl dX7_notes_0 rfl ?_
  refine V_getf (T := TX7) (k := 16) (q := 4) hC uX7_notes_7 rfl iD7 rfl (by decide) kX7_notes_f139 rfl dX7_notes_1 rfl ?_
  refine V_bipush (q := 6) hC (by decide) dX7_notes_4 rfl ?_
  refine V_icmp_ne (tgt := 49) (q := 9) hC (hs _ _ _) (Rg_c rfl) dX7_notes_6 (by decide) rfl (fun c1 => ?_) (fun c1 => ?_)
  · replace hf := (if_neg c1).symm.trans hf
    refine V_lsub [0] rfl ?_
    exact tjX7_notes_49 hG hC hr hlk hs  hf
  · replace hf := (if_pos c1).symm.trans hf
    refine V_iconst (q := 10) hC dX7_notes_9 rfl ?_
    refine V_istore_n (k := 1) (i := 1) (lv' := [(0, rf G 7 0), (1, iv 0)]) (q := 11) hC [1, 0] rfl (by decide) rfl dX7_notes_10 rfl ?_
    refine V_lsub [0, 1] rfl ?_
    exact (tlX7_notes_11 hG hC hr hlk FU) hs (Rg_c rfl) hf
/-! X7_years -/
theorem kX7_years_f25 : Cond.fieldLink RX7 25 "BarkNamesModel" "now" "[I" ∈ wsX7_years := by decide +kernel
theorem uX7_years_7 : ∀ w ∈ u_ws RX7 TX7 22, w ∈ wsX7_years := by decide +kernel
theorem kX7_years_c82 : Cond.constant RX7 82 (-1000003) ∈ wsX7_years := by decide +kernel
theorem kX7_years_c61 : Cond.constant RX7 61 (-1000001) ∈ wsX7_years := by decide +kernel
theorem kX7_years_c178 : Cond.constant RX7 178 (-1000002) ∈ wsX7_years := by decide +kernel
theorem kX7_years_c47 : Cond.constant RX7 47 (-1000000) ∈ wsX7_years := by decide +kernel
abbrev rmX7_years : Room := { frames := 3, cells := 0, slots := 0, locals := 72 }
set_option maxHeartbeats 4000000 in
set_option maxRecDepth 100000 in
theorem tlX7_years_42 {p : Program} {l : Launch} {e : Env} {s : State} {m : MethodId} {args : Array Value} {below : List Frame} {meth : Method} {c : Code} {G : GT} (hG : GI G) (hC : CX p s m args c cX7_years 3 RX7 wsX7_years G (AA G)) (hr : meth.sig.returnType = (some .int)) (hlk : meth.locks = false) {r0 : Int × Hp} : ∀ n : Nat, (∀ {σ : Hp} (hs : RgS σ) {v1 : Int} {v2 : Int} (h1 : Rg v1) (h2 : Rg v2) (hf : lX7_years_42 n σ v1 v2 = some r0), VV p l e (headSpec wsX7_years rmX7_years).room s m args below meth c (MQ below (QI G r0.1 r0.2) args s 0 0 (AA G)) G (AA G) 0 0 3 σ 42 [(0, rf G 7 0), (1, iv v1), (2, iv v2)] []) := by
  intro n
  induction n with
  | zero =>
    exact by intro σ hs v1 v2 h1 h2 hf; exact absurd (show (none : Option (Int × Hp)) = some r0 from hf) (fun z => by cases z)
  | succ n ih =>
    intro σ hs v1 v2 h1 h2 hf
    replace hf := (lX7_years_42_e0 n σ v1 v2).symm.trans hf
    refine V_iload_n (k := 2) (q := 43) hC 2 rfl dX7_years_42 rfl ?_
    refine V_iload_n (k := 1) (q := 44) hC 1 rfl dX7_years_43 rfl ?_
    refine V_icmp_ge (tgt := 64) (q := 47) hC h2 h1 dX7_years_44 (by decide) rfl (fun c6 => ?_) (fun c6 => ?_)
    · replace hf := (if_pos c6).symm.trans hf
      refine V_aload_n (k := 0) (q := 65) hC 0 rfl dX7_years_64 rfl ?_
      refine V_getf (T := TX7) (k := 13) (q := 68) hC uX7_years_7 rfl iD7 rfl (by decide) kX7_years_f25 rfl dX7_years_65 rfl ?_
      refine V_ldc (q := 70) (n := (-1000000)) hC (by decide) kX7_years_c47 dX7_years_68 rfl ?_
      obtain ⟨r7, σ8, hc9, hf⟩ := cl_some hf
      refine V_csi (st := []) (q := 73) (x0 := r7) (σ0 := σ8) hC (sX7_legible l hG iD27 (Rg_c rfl) hs hc9) (va_cwS 2 hC.2.2.2.2.1 gX7_years_X7_legible rfl rfl rfl (by decide +kernel) ⟨Nat.le_of_ble_eq_true rfl, Nat.le_of_ble_eq_true rfl⟩) rfl rfl (Nat.le_of_ble_eq_true rfl) dX7_years_70 rfl ⟨Nat.zero_le _, Nat.zero_le _⟩ (fun hr10 hs11 => ?_)
      obtain ⟨r12, σ13, hc14, hf⟩ := cl_some hf
      refine V_csi (st := []) (q := 76) (x0 := r12) (σ0 := σ13) hC (sX7_ones l hG hr10 hs11 hc14) (va_cwS 1 hC.2.2.2.2.1 gX7_years_X7_ones rfl rfl rfl (by decide +kernel) ⟨Nat.le_of_ble_eq_true rfl, Nat.le_of_ble_eq_true rfl⟩) rfl rfl (Nat.le_of_ble_eq_true rfl) dX7_years_73 rfl ⟨Nat.zero_le _, Nat.zero_le _⟩ (fun hr15 hs16 => ?_)
      exact V_iret hC hr hlk (re_1 hf) (re_2 hf) hr15 hs16 dX7_years_76
    · replace hf := (if_neg c6).symm.trans hf
      refine V_aload_n (k := 0) (q := 48) hC 0 rfl dX7_years_47 rfl ?_
      obtain ⟨r17, σ18, hc19, hf⟩ := cl_some hf
      refine V_cvv (st := []) (q := 51) (σ0 := σ18) hC (sX7_notes l hG  hs hc19) (cwV 0 hC.2.2.2.2.1 gX7_years_X7_notes rfl rfl rfl (by decide +kernel) ⟨Nat.le_of_ble_eq_true rfl, Nat.le_of_ble_eq_true rfl⟩) ⟨_, rfl, rfl⟩ iD7 (fun _ => ⟨_, rfl⟩) rfl rfl (Nat.le_of_ble_eq_true rfl) dX7_years_48 rfl ⟨Nat.zero_le _, Nat.zero_le _⟩ (fun hs21 => ?_)
      refine V_aload_n (k := 0) (q := 52) hC 0 rfl dX7_years_51 rfl ?_
      refine V_getf (T := TX7) (k := 13) (q := 55) hC uX7_years_7 rfl iD7 rfl (by decide) kX7_years_f25 rfl dX7_years_52 rfl ?_
      obtain ⟨r22, σ23, hc24, hf⟩ := cl_some hf
      refine V_csv (st := []) (q := 58) (σ0 := σ23) hC (sX7_passes l hG iD27 hs21 hc24) (va_cwS 1 hC.2.2.2.2.1 gX7_years_X7_passes rfl rfl rfl (by decide +kernel) ⟨Nat.le_of_ble_eq_true rfl, Nat.le_of_ble_eq_true rfl⟩) rfl rfl (Nat.le_of_ble_eq_true rfl) dX7_years_55 rfl ⟨Nat.zero_le _, Nat.zero_le _⟩ (fun hs26 => ?_)
      refine V_iinc (i := 2) (lv' := [(0, rf G 7 0), (1, iv v1), (2, iv (wr (v2 + 1)))]) (q := 61) hC 2 rfl [1, 2, 0] (by decide) rfl dX7_years_58 rfl ?_
      refine V_goto (tgt := 42) hC dX7_years_61 (by decide) ?_
      refine V_lsub [0, 1, 2] rfl ?_
      exact ih hs26 h1 (Rg_wr _) hf
set_option maxHeartbeats 4000000 in
set_option maxRecDepth 100000 in
theorem sX7_years (l : Launch) {G : GT} (hG : GI G) {v1 : Int} (h1 : Rg v1) {σ : Hp} (hs : RgS σ) {r0 : Int × Hp} (hf : fX7_years σ v1 = some r0) : Cti l G yX7_years wsX7_years rmX7_years [rf G 7 0, iv v1] σ r0.1 r0.2 := by
  unfold fX7_years at hf
  refine Cti_start (lv := [(0, rf G 7 0), (1, iv v1)]) (ret := (some .int)) (by decide +kernel) rfl hG (Nat.le_of_ble_eq_true rfl) rfl (fun p e s m args below meth c hC hr hlk => ?_)
  refine V_aload_n (k := 0) (q := 1) hC 0 rfl dX7_years_0 rfl ?_
  refine V_cvi (st := []) (q := 4) hC (sX7_isWood l hG  hs) (cwV 0 hC.2.2.2.2.1 gX7_years_X7_isWood rfl rfl rfl (by decide +kernel) ⟨Nat.le_of_ble_eq_true rfl, Nat.le_of_ble_eq_true rfl⟩) ⟨_, rfl, rfl⟩ iD7 (fun _ => ⟨_, rfl⟩) rfl rfl (Nat.le_of_ble_eq_true rfl) dX7_years_1 rfl ⟨Nat.zero_le _, Nat.zero_le _⟩ (fun hr1 _ => ?_)
  refine V_if_ne (tgt := 10) (q := 7) hC hr1 dX7_years_4 (by decide) rfl (fun c2 => ?_) (fun c2 => ?_)
  · replace hf := (if_neg c2).symm.trans hf
    refine V_iload_n (k := 1) (q := 11) hC 1 rfl dX7_years_10 rfl ?_
    refine V_iconst (q := 12) hC dX7_years_11 rfl ?_
    refine V_bipush (q := 14) hC (by decide) dX7_years_12 rfl ?_
    refine V_csi (st := []) (q := 17) hC (sX7_in l hG h1 (Rg_c rfl) (Rg_c rfl) hs) (va_cwS 3 hC.2.2.2.2.1 gX7_years_X7_in rfl rfl rfl (by decide +kernel) ⟨Nat.le_of_ble_eq_true rfl, Nat.le_of_ble_eq_true rfl⟩) rfl rfl (Nat.le_of_ble_eq_true rfl) dX7_years_14 rfl ⟨Nat.zero_le _, Nat.zero_le _⟩ (fun hr3 _ => ?_)
    refine V_if_ne (tgt := 23) (q := 20) hC hr3 dX7_years_17 (by decide) rfl (fun c4 => ?_) (fun c4 => ?_)
    · replace hf := (if_neg c4).symm.trans hf
      refine V_aload_n (k := 0) (q := 24) hC 0 rfl dX7_years_23 rfl ?_
      refine V_getf (T := TX7) (k := 13) (q := 27) hC uX7_years_7 rfl iD7 rfl (by decide) kX7_years_f25 rfl dX7_years_24 rfl ?_
      refine V_iconst (q := 28) hC dX7_years_27 rfl ?_
      refine V_iald (n := 48) (q := 29) hC iD27 rfl ⟨by decide, by decide⟩ (Rg_c rfl) dX7_years_28 rfl ?_
      refine V_iload_n (k := 1) (q := 30) hC 1 rfl dX7_years_29 rfl ?_
      refine V_iadd (q := 31) hC dX7_years_30 rfl ?_
      refine V_sipush (q := 34) hC (by decide) dX7_years_31 rfl ?_
      refine V_icmp_le (tgt := 40) (q := 37) hC (Rg_wr _) (Rg_c rfl) dX7_years_34 (by decide) rfl (fun c5 => ?_) (fun c5 => ?_)
      · replace hf := (if_pos c5).symm.trans hf
        refine V_iconst (q := 41) hC dX7_years_40 rfl ?_
        refine V_istore_n (k := 2) (i := 2) (lv' := [(0, rf G 7 0), (1, iv v1), (2, iv 0)]) (q := 42) hC [1, 2, 0] rfl (by decide) rfl dX7_years_41 rfl ?_
        refine V_lsub [0, 1, 2] rfl ?_
        exact (tlX7_years_42 hG hC hr hlk FU) hs h1 (Rg_c rfl) hf
      · replace hf := (if_neg c5).symm.trans hf
        refine V_ldc (q := 39) (n := (-1000003)) hC (by decide) kX7_years_c82 dX7_years_37 rfl ?_
        exact V_iret hC hr hlk (re_1 hf) (re_2 hf) (Rg_c rfl) hs dX7_years_39
    · replace hf := (if_pos c4).symm.trans hf
      refine V_ldc (q := 22) (n := (-1000001)) hC (by decide) kX7_years_c61 dX7_years_20 rfl ?_
      exact V_iret hC hr hlk (re_1 hf) (re_2 hf) (Rg_c rfl) hs dX7_years_22
  · replace hf := (if_pos c2).symm.trans hf
    refine V_ldc (q := 9) (n := (-1000002)) hC (by decide) kX7_years_c178 dX7_years_7 rfl ?_
    exact V_iret hC hr hlk (re_1 hf) (re_2 hf) (Rg_c rfl) hs dX7_years_9
/-! X7_cut_ -/
theorem kX7_cut__c61 : Cond.constant RX7 61 (-1000001) ∈ wsX7_cut_ := by decide +kernel
theorem kX7_cut__f25 : Cond.fieldLink RX7 25 "BarkNamesModel" "now" "[I" ∈ wsX7_cut_ := by decide +kernel
theorem uX7_cut__7 : ∀ w ∈ u_ws RX7 TX7 22, w ∈ wsX7_cut_ := by decide +kernel
theorem kX7_cut__c82 : Cond.constant RX7 82 (-1000003) ∈ wsX7_cut_ := by decide +kernel
theorem kX7_cut__c178 : Cond.constant RX7 178 (-1000002) ∈ wsX7_cut_ := by decide +kernel
abbrev rmX7_cut_ : Room := { frames := 2, cells := 0, slots := 0, locals := 45 }
set_option maxHeartbeats 4000000 in
set_option maxRecDepth 100000 in
theorem sX7_cut_ (l : Launch) {G : GT} (hG : GI G) {v1 : Int} {v2 : Int} {v3 : Int} {v4 : Int} (h1 : Rg v1) (h2 : Rg v2) (h3 : Rg v3) (h4 : Rg v4) {σ : Hp} (hs : RgS σ) {r0 : Int × Hp} (hf : fX7_cut_ σ v1 v2 v3 v4 = some r0) : Cti l G yX7_cut_ wsX7_cut_ rmX7_cut_ [rf G 7 0, iv v1, iv v2, iv v3, iv v4] σ r0.1 r0.2 := by
  unfold fX7_cut_ at hf
  refine Cti_start (lv := [(0, rf G 7 0), (1, iv v1), (2, iv v2), (3, iv v3), (4, iv v4)]) (ret := (some .int)) (by decide +kernel) rfl hG (Nat.le_of_ble_eq_true rfl) rfl (fun p e s m args below meth c hC hr hlk => ?_)
  refine V_aload_n (k := 0) (q := 1) hC 0 rfl dX7_cut__0 rfl ?_
  refine V_iload_n (k := 1) (q := 2) hC 1 rfl dX7_cut__1 rfl ?_
  refine V_cvi (st := []) (q := 5) hC (sX7_isTree l hG h1 hs) (cwV 1 hC.2.2.2.2.1 gX7_cut__X7_isTree rfl rfl rfl (by decide +kernel) ⟨Nat.le_of_ble_eq_true rfl, Nat.le_of_ble_eq_true rfl⟩) ⟨_, rfl, rfl⟩ iD7 (fun _ => ⟨_, rfl⟩) rfl rfl (Nat.le_of_ble_eq_true rfl) dX7_cut__2 rfl ⟨Nat.zero_le _, Nat.zero_le _⟩ (fun hr1 _ => ?_)
  refine V_if_eq (tgt := 39) (q := 8) hC hr1 dX7_cut__5 (by decide) rfl (fun c2 => ?_) (fun c2 => ?_)
  · replace hf := (if_pos c2).symm.trans hf
    refine V_ldc (q := 41) (n := (-1000001)) hC (by decide) kX7_cut__c61 dX7_cut__39 rfl ?_
    exact V_iret hC hr hlk (re_1 hf) (re_2 hf) (Rg_c rfl) hs dX7_cut__41
  · replace hf := (if_neg c2).symm.trans hf
    refine V_iload_n (k := 2) (q := 9) hC 2 rfl dX7_cut__8 rfl ?_
    refine V_iconst (q := 10) hC dX7_cut__9 rfl ?_
    refine V_bipush (q := 12) hC (by decide) dX7_cut__10 rfl ?_
    refine V_csi (st := []) (q := 15) hC (sX7_in l hG h2 (Rg_c rfl) (Rg_c rfl) hs) (va_cwS 3 hC.2.2.2.2.1 gX7_cut__X7_in rfl rfl rfl (by decide +kernel) ⟨Nat.le_of_ble_eq_true rfl, Nat.le_of_ble_eq_true rfl⟩) rfl rfl (Nat.le_of_ble_eq_true rfl) dX7_cut__12 rfl ⟨Nat.zero_le _, Nat.zero_le _⟩ (fun hr3 _ => ?_)
    refine V_if_eq (tgt := 39) (q := 18) hC hr3 dX7_cut__15 (by decide) rfl (fun c4 => ?_) (fun c4 => ?_)
    · replace hf := (if_pos c4).symm.trans hf
      refine V_ldc (q := 41) (n := (-1000001)) hC (by decide) kX7_cut__c61 dX7_cut__39 rfl ?_
      exact V_iret hC hr hlk (re_1 hf) (re_2 hf) (Rg_c rfl) hs dX7_cut__41
    · replace hf := (if_neg c4).symm.trans hf
      refine V_iload_n (k := 3) (q := 19) hC 3 rfl dX7_cut__18 rfl ?_
      refine V_iconst (q := 20) hC dX7_cut__19 rfl ?_
      refine V_bipush (q := 22) hC (by decide) dX7_cut__20 rfl ?_
      refine V_csi (st := []) (q := 25) hC (sX7_in l hG h3 (Rg_c rfl) (Rg_c rfl) hs) (va_cwS 3 hC.2.2.2.2.1 gX7_cut__X7_in rfl rfl rfl (by decide +kernel) ⟨Nat.le_of_ble_eq_true rfl, Nat.le_of_ble_eq_true rfl⟩) rfl rfl (Nat.le_of_ble_eq_true rfl) dX7_cut__22 rfl ⟨Nat.zero_le _, Nat.zero_le _⟩ (fun hr5 _ => ?_)
      refine V_if_eq (tgt := 39) (q := 28) hC hr5 dX7_cut__25 (by decide) rfl (fun c6 => ?_) (fun c6 => ?_)
      · replace hf := (if_pos c6).symm.trans hf
        refine V_ldc (q := 41) (n := (-1000001)) hC (by decide) kX7_cut__c61 dX7_cut__39 rfl ?_
        exact V_iret hC hr hlk (re_1 hf) (re_2 hf) (Rg_c rfl) hs dX7_cut__41
      · replace hf := (if_neg c6).symm.trans hf
        refine V_iload (k := 4) (q := 30) hC 4 rfl dX7_cut__28 rfl ?_
        refine V_iconst (q := 31) hC dX7_cut__30 rfl ?_
        refine V_bipush (q := 33) hC (by decide) dX7_cut__31 rfl ?_
        refine V_csi (st := []) (q := 36) hC (sX7_in l hG h4 (Rg_c rfl) (Rg_c rfl) hs) (va_cwS 3 hC.2.2.2.2.1 gX7_cut__X7_in rfl rfl rfl (by decide +kernel) ⟨Nat.le_of_ble_eq_true rfl, Nat.le_of_ble_eq_true rfl⟩) rfl rfl (Nat.le_of_ble_eq_true rfl) dX7_cut__33 rfl ⟨Nat.zero_le _, Nat.zero_le _⟩ (fun hr7 _ => ?_)
        refine V_if_ne (tgt := 42) (q := 39) hC hr7 dX7_cut__36 (by decide) rfl (fun c8 => ?_) (fun c8 => ?_)
        · replace hf := (if_neg c8).symm.trans hf
          refine V_aload_n (k := 0) (q := 43) hC 0 rfl dX7_cut__42 rfl ?_
          refine V_getf (T := TX7) (k := 13) (q := 46) hC uX7_cut__7 rfl iD7 rfl (by decide) kX7_cut__f25 rfl dX7_cut__43 rfl ?_
          refine V_iload_n (k := 1) (q := 47) hC 1 rfl dX7_cut__46 rfl ?_
          refine V_iload_n (k := 3) (q := 48) hC 3 rfl dX7_cut__47 rfl ?_
          obtain ⟨r9, σ10, hc11, hf⟩ := cl_some hf
          refine V_csi (st := []) (q := 51) (x0 := r9) (σ0 := σ10) hC (sX7_isCutAt l hG iD27 h1 h3 hs hc11) (va_cwS 3 hC.2.2.2.2.1 gX7_cut__X7_isCutAt rfl rfl rfl (by decide +kernel) ⟨Nat.le_of_ble_eq_true rfl, Nat.le_of_ble_eq_true rfl⟩) rfl rfl (Nat.le_of_ble_eq_true rfl) dX7_cut__48 rfl ⟨Nat.zero_le _, Nat.zero_le _⟩ (fun hr12 hs13 => ?_)
          refine V_if_eq (tgt := 57) (q := 54) hC hr12 dX7_cut__51 (by decide) rfl (fun c14 => ?_) (fun c14 => ?_)
          · replace hf := (if_pos c14).symm.trans hf
            refine V_aload_n (k := 0) (q := 58) hC 0 rfl dX7_cut__57 rfl ?_
            refine V_getf (T := TX7) (k := 13) (q := 61) hC uX7_cut__7 rfl iD7 rfl (by decide) kX7_cut__f25 rfl dX7_cut__58 rfl ?_
            refine V_iconst (q := 62) hC dX7_cut__61 rfl ?_
            refine V_iald (n := 48) (q := 63) hC iD27 rfl ⟨by decide, by decide⟩ (Rg_c rfl) dX7_cut__62 rfl ?_
            refine V_bipush (q := 65) hC (by decide) dX7_cut__63 rfl ?_
            refine V_icmp_ne (tgt := 71) (q := 68) hC (hs13 _ _ _) (Rg_c rfl) dX7_cut__65 (by decide) rfl (fun c15 => ?_) (fun c15 => ?_)
            · replace hf := (if_neg c15).symm.trans hf
              refine V_aload_n (k := 0) (q := 72) hC 0 rfl dX7_cut__71 rfl ?_
              obtain ⟨r16, σ17, hc18, hf⟩ := cl_some hf
              refine V_cvv (st := []) (q := 75) (σ0 := σ17) hC (sX7_notes l hG  hs13 hc18) (cwV 0 hC.2.2.2.2.1 gX7_cut__X7_notes rfl rfl rfl (by decide +kernel) ⟨Nat.le_of_ble_eq_true rfl, Nat.le_of_ble_eq_true rfl⟩) ⟨_, rfl, rfl⟩ iD7 (fun _ => ⟨_, rfl⟩) rfl rfl (Nat.le_of_ble_eq_true rfl) dX7_cut__72 rfl ⟨Nat.zero_le _, Nat.zero_le _⟩ (fun hs20 => ?_)
              refine V_bipush (q := 77) hC (by decide) dX7_cut__75 rfl ?_
              refine V_iconst (q := 78) hC dX7_cut__77 rfl ?_
              refine V_aload_n (k := 0) (q := 79) hC 0 rfl dX7_cut__78 rfl ?_
              refine V_getf (T := TX7) (k := 13) (q := 82) hC uX7_cut__7 rfl iD7 rfl (by decide) kX7_cut__f25 rfl dX7_cut__79 rfl ?_
              refine V_iconst (q := 83) hC dX7_cut__82 rfl ?_
              refine V_iald (n := 48) (q := 84) hC iD27 rfl ⟨by decide, by decide⟩ (Rg_c rfl) dX7_cut__83 rfl ?_
              refine V_imul (q := 85) hC dX7_cut__84 rfl ?_
              refine V_iadd (q := 86) hC dX7_cut__85 rfl ?_
              refine V_istore (i := 5) (lv' := [(0, rf G 7 0), (1, iv v1), (2, iv v2), (3, iv v3), (4, iv v4), (5, iv (wr (16 + (wr (4 * (σ17 27 0 3))))))]) (q := 88) hC [1, 2, 3, 4, 5, 0] (by decide) rfl dX7_cut__86 rfl ?_
              refine V_aload_n (k := 0) (q := 89) hC 0 rfl dX7_cut__88 rfl ?_
              refine V_getf (T := TX7) (k := 13) (q := 92) hC uX7_cut__7 rfl iD7 rfl (by decide) kX7_cut__f25 rfl dX7_cut__89 rfl ?_
              refine V_iload (k := 5) (q := 94) hC 5 rfl dX7_cut__92 rfl ?_
              refine V_iload_n (k := 1) (q := 95) hC 1 rfl dX7_cut__94 rfl ?_
              obtain ⟨g21, hf⟩ := gd_some hf
              obtain ⟨σ22, e23, hf⟩ := sq_ex hf
              have hs24 : RgS σ22 := by rw [e23]; exact RgS_hup hs20 h1
              refine V_iast (n := 48) (q := 96) hC iD27 rfl g21 (Rg_wr _) e23 dX7_cut__95 rfl ?_
              refine V_aload_n (k := 0) (q := 97) hC 0 rfl dX7_cut__96 rfl ?_
              refine V_getf (T := TX7) (k := 13) (q := 100) hC uX7_cut__7 rfl iD7 rfl (by decide) kX7_cut__f25 rfl dX7_cut__97 rfl ?_
              refine V_iload (k := 5) (q := 102) hC 5 rfl dX7_cut__100 rfl ?_
              refine V_iconst (q := 103) hC dX7_cut__102 rfl ?_
              refine V_iadd (q := 104) hC dX7_cut__103 rfl ?_
              refine V_iload_n (k := 2) (q := 105) hC 2 rfl dX7_cut__104 rfl ?_
              obtain ⟨g25, hf⟩ := gd_some hf
              obtain ⟨σ26, e27, hf⟩ := sq_ex hf
              have hs28 : RgS σ26 := by rw [e27]; exact RgS_hup hs24 h2
              refine V_iast (n := 48) (q := 106) hC iD27 rfl g25 (Rg_wr _) e27 dX7_cut__105 rfl ?_
              refine V_aload_n (k := 0) (q := 107) hC 0 rfl dX7_cut__106 rfl ?_
              refine V_getf (T := TX7) (k := 13) (q := 110) hC uX7_cut__7 rfl iD7 rfl (by decide) kX7_cut__f25 rfl dX7_cut__107 rfl ?_
              refine V_iload (k := 5) (q := 112) hC 5 rfl dX7_cut__110 rfl ?_
              refine V_iconst (q := 113) hC dX7_cut__112 rfl ?_
              refine V_iadd (q := 114) hC dX7_cut__113 rfl ?_
              refine V_iload_n (k := 3) (q := 115) hC 3 rfl dX7_cut__114 rfl ?_
              obtain ⟨g29, hf⟩ := gd_some hf
              obtain ⟨σ30, e31, hf⟩ := sq_ex hf
              have hs32 : RgS σ30 := by rw [e31]; exact RgS_hup hs28 h3
              refine V_iast (n := 48) (q := 116) hC iD27 rfl g29 (Rg_wr _) e31 dX7_cut__115 rfl ?_
              refine V_aload_n (k := 0) (q := 117) hC 0 rfl dX7_cut__116 rfl ?_
              refine V_getf (T := TX7) (k := 13) (q := 120) hC uX7_cut__7 rfl iD7 rfl (by decide) kX7_cut__f25 rfl dX7_cut__117 rfl ?_
              refine V_iload (k := 5) (q := 122) hC 5 rfl dX7_cut__120 rfl ?_
              refine V_iconst (q := 123) hC dX7_cut__122 rfl ?_
              refine V_iadd (q := 124) hC dX7_cut__123 rfl ?_
              refine V_iload (k := 4) (q := 126) hC 4 rfl dX7_cut__124 rfl ?_
              obtain ⟨g33, hf⟩ := gd_some hf
              obtain ⟨σ34, e35, hf⟩ := sq_ex hf
              have hs36 : RgS σ34 := by rw [e35]; exact RgS_hup hs32 h4
              refine V_iast (n := 48) (q := 127) hC iD27 rfl g33 (Rg_wr _) e35 dX7_cut__126 rfl ?_
              refine V_aload_n (k := 0) (q := 128) hC 0 rfl dX7_cut__127 rfl ?_
              refine V_getf (T := TX7) (k := 13) (q := 131) hC uX7_cut__7 rfl iD7 rfl (by decide) kX7_cut__f25 rfl dX7_cut__128 rfl ?_
              refine V_iconst (q := 132) hC dX7_cut__131 rfl ?_
              refine V_dup2 (q := 133) hC rfl rfl dX7_cut__132 rfl ?_
              refine V_iald (n := 48) (q := 134) hC iD27 rfl ⟨by decide, by decide⟩ (Rg_c rfl) dX7_cut__133 rfl ?_
              refine V_iconst (q := 135) hC dX7_cut__134 rfl ?_
              refine V_iadd (q := 136) hC dX7_cut__135 rfl ?_
              obtain ⟨σ37, e38, hf⟩ := sq_ex hf
              have hs39 : RgS σ37 := by rw [e38]; exact RgS_hup hs36 (Rg_wr _)
              refine V_iast (n := 48) (q := 137) hC iD27 rfl ⟨by decide, by decide⟩ (Rg_c rfl) e38 dX7_cut__136 rfl ?_
              refine V_aload_n (k := 0) (q := 138) hC 0 rfl dX7_cut__137 rfl ?_
              refine V_getf (T := TX7) (k := 13) (q := 141) hC uX7_cut__7 rfl iD7 rfl (by decide) kX7_cut__f25 rfl dX7_cut__138 rfl ?_
              refine V_iconst (q := 142) hC dX7_cut__141 rfl ?_
              refine V_iald (n := 48) (q := 143) hC iD27 rfl ⟨by decide, by decide⟩ (Rg_c rfl) dX7_cut__142 rfl ?_
              refine V_iconst (q := 144) hC dX7_cut__143 rfl ?_
              refine V_isub (q := 145) hC dX7_cut__144 rfl ?_
              exact V_iret hC hr hlk (re_1 hf) (re_2 hf) (Rg_wr _) hs39 dX7_cut__145
            · replace hf := (if_pos c15).symm.trans hf
              refine V_ldc (q := 70) (n := (-1000003)) hC (by decide) kX7_cut__c82 dX7_cut__68 rfl ?_
              exact V_iret hC hr hlk (re_1 hf) (re_2 hf) (Rg_c rfl) hs13 dX7_cut__70
          · replace hf := (if_neg c14).symm.trans hf
            refine V_ldc (q := 56) (n := (-1000002)) hC (by decide) kX7_cut__c178 dX7_cut__54 rfl ?_
            exact V_iret hC hr hlk (re_1 hf) (re_2 hf) (Rg_c rfl) hs13 dX7_cut__56
        · replace hf := (if_pos c8).symm.trans hf
          refine V_ldc (q := 41) (n := (-1000001)) hC (by decide) kX7_cut__c61 dX7_cut__39 rfl ?_
          exact V_iret hC hr hlk (re_1 hf) (re_2 hf) (Rg_c rfl) hs dX7_cut__41
/-! X7_anew -/
theorem kX7_anew_c61 : Cond.constant RX7 61 (-1000001) ∈ wsX7_anew := by decide +kernel
theorem kX7_anew_f25 : Cond.fieldLink RX7 25 "BarkNamesModel" "now" "[I" ∈ wsX7_anew := by decide +kernel
theorem uX7_anew_7 : ∀ w ∈ u_ws RX7 TX7 22, w ∈ wsX7_anew := by decide +kernel
theorem kX7_anew_c178 : Cond.constant RX7 178 (-1000002) ∈ wsX7_anew := by decide +kernel
abbrev rmX7_anew : Room := { frames := 2, cells := 0, slots := 0, locals := 45 }
set_option maxHeartbeats 4000000 in
set_option maxRecDepth 100000 in
theorem sX7_anew (l : Launch) {G : GT} (hG : GI G) {v1 : Int} {v2 : Int} (h1 : Rg v1) (h2 : Rg v2) {σ : Hp} (hs : RgS σ) {r0 : Int × Hp} (hf : fX7_anew σ v1 v2 = some r0) : Cti l G yX7_anew wsX7_anew rmX7_anew [rf G 7 0, iv v1, iv v2] σ r0.1 r0.2 := by
  unfold fX7_anew at hf
  refine Cti_start (lv := [(0, rf G 7 0), (1, iv v1), (2, iv v2)]) (ret := (some .int)) (by decide +kernel) rfl hG (Nat.le_of_ble_eq_true rfl) rfl (fun p e s m args below meth c hC hr hlk => ?_)
  refine V_aload_n (k := 0) (q := 1) hC 0 rfl dX7_anew_0 rfl ?_
  refine V_iload_n (k := 1) (q := 2) hC 1 rfl dX7_anew_1 rfl ?_
  refine V_cvi (st := []) (q := 5) hC (sX7_isCut l hG h1 hs) (cwV 1 hC.2.2.2.2.1 gX7_anew_X7_isCut rfl rfl rfl (by decide +kernel) ⟨Nat.le_of_ble_eq_true rfl, Nat.le_of_ble_eq_true rfl⟩) ⟨_, rfl, rfl⟩ iD7 (fun _ => ⟨_, rfl⟩) rfl rfl (Nat.le_of_ble_eq_true rfl) dX7_anew_2 rfl ⟨Nat.zero_le _, Nat.zero_le _⟩ (fun hr1 _ => ?_)
  refine V_if_eq (tgt := 18) (q := 8) hC hr1 dX7_anew_5 (by decide) rfl (fun c2 => ?_) (fun c2 => ?_)
  · replace hf := (if_pos c2).symm.trans hf
    refine V_ldc (q := 20) (n := (-1000001)) hC (by decide) kX7_anew_c61 dX7_anew_18 rfl ?_
    exact V_iret hC hr hlk (re_1 hf) (re_2 hf) (Rg_c rfl) hs dX7_anew_20
  · replace hf := (if_neg c2).symm.trans hf
    refine V_iload_n (k := 2) (q := 9) hC 2 rfl dX7_anew_8 rfl ?_
    refine V_iconst (q := 10) hC dX7_anew_9 rfl ?_
    refine V_bipush (q := 12) hC (by decide) dX7_anew_10 rfl ?_
    refine V_csi (st := []) (q := 15) hC (sX7_in l hG h2 (Rg_c rfl) (Rg_c rfl) hs) (va_cwS 3 hC.2.2.2.2.1 gX7_anew_X7_in rfl rfl rfl (by decide +kernel) ⟨Nat.le_of_ble_eq_true rfl, Nat.le_of_ble_eq_true rfl⟩) rfl rfl (Nat.le_of_ble_eq_true rfl) dX7_anew_12 rfl ⟨Nat.zero_le _, Nat.zero_le _⟩ (fun hr3 _ => ?_)
    refine V_if_ne (tgt := 21) (q := 18) hC hr3 dX7_anew_15 (by decide) rfl (fun c4 => ?_) (fun c4 => ?_)
    · replace hf := (if_neg c4).symm.trans hf
      refine V_aload_n (k := 0) (q := 22) hC 0 rfl dX7_anew_21 rfl ?_
      refine V_getf (T := TX7) (k := 13) (q := 25) hC uX7_anew_7 rfl iD7 rfl (by decide) kX7_anew_f25 rfl dX7_anew_22 rfl ?_
      refine V_bipush (q := 27) hC (by decide) dX7_anew_25 rfl ?_
      refine V_iconst (q := 28) hC dX7_anew_27 rfl ?_
      refine V_iload_n (k := 1) (q := 29) hC 1 rfl dX7_anew_28 rfl ?_
      refine V_imul (q := 30) hC dX7_anew_29 rfl ?_
      refine V_iadd (q := 31) hC dX7_anew_30 rfl ?_
      refine V_iconst (q := 32) hC dX7_anew_31 rfl ?_
      refine V_iadd (q := 33) hC dX7_anew_32 rfl ?_
      obtain ⟨g5, hf⟩ := gd_some hf
      refine V_iald (n := 48) (q := 34) hC iD27 rfl g5 (Rg_wr _) dX7_anew_33 rfl ?_
      refine V_istore_n (k := 3) (i := 3) (lv' := [(0, rf G 7 0), (1, iv v1), (2, iv v2), (3, iv (σ 27 0 (wr ((wr (16 + (wr (4 * v1)))) + 3)).toNat))]) (q := 35) hC [1, 2, 3, 0] rfl (by decide) rfl dX7_anew_34 rfl ?_
      refine V_iload_n (k := 3) (q := 36) hC 3 rfl dX7_anew_35 rfl ?_
      refine V_if_ne (tgt := 42) (q := 39) hC (hs _ _ _) dX7_anew_36 (by decide) rfl (fun c6 => ?_) (fun c6 => ?_)
      · replace hf := (if_neg c6).symm.trans hf
        refine V_aload_n (k := 0) (q := 43) hC 0 rfl dX7_anew_42 rfl ?_
        obtain ⟨r7, σ8, hc9, hf⟩ := cl_some hf
        refine V_cvv (st := []) (q := 46) (σ0 := σ8) hC (sX7_notes l hG  hs hc9) (cwV 0 hC.2.2.2.2.1 gX7_anew_X7_notes rfl rfl rfl (by decide +kernel) ⟨Nat.le_of_ble_eq_true rfl, Nat.le_of_ble_eq_true rfl⟩) ⟨_, rfl, rfl⟩ iD7 (fun _ => ⟨_, rfl⟩) rfl rfl (Nat.le_of_ble_eq_true rfl) dX7_anew_43 rfl ⟨Nat.zero_le _, Nat.zero_le _⟩ (fun hs11 => ?_)
        refine V_aload_n (k := 0) (q := 47) hC 0 rfl dX7_anew_46 rfl ?_
        refine V_getf (T := TX7) (k := 13) (q := 50) hC uX7_anew_7 rfl iD7 rfl (by decide) kX7_anew_f25 rfl dX7_anew_47 rfl ?_
        refine V_bipush (q := 52) hC (by decide) dX7_anew_50 rfl ?_
        refine V_iconst (q := 53) hC dX7_anew_52 rfl ?_
        refine V_iload_n (k := 1) (q := 54) hC 1 rfl dX7_anew_53 rfl ?_
        refine V_imul (q := 55) hC dX7_anew_54 rfl ?_
        refine V_iadd (q := 56) hC dX7_anew_55 rfl ?_
        refine V_iconst (q := 57) hC dX7_anew_56 rfl ?_
        refine V_iadd (q := 58) hC dX7_anew_57 rfl ?_
        refine V_iload_n (k := 2) (q := 59) hC 2 rfl dX7_anew_58 rfl ?_
        obtain ⟨g12, hf⟩ := gd_some hf
        obtain ⟨σ13, e14, hf⟩ := sq_ex hf
        have hs15 : RgS σ13 := by rw [e14]; exact RgS_hup hs11 h2
        refine V_iast (n := 48) (q := 60) hC iD27 rfl g12 (Rg_wr _) e14 dX7_anew_59 rfl ?_
        refine V_iload_n (k := 3) (q := 61) hC 3 rfl dX7_anew_60 rfl ?_
        exact V_iret hC hr hlk (re_1 hf) (re_2 hf) (hs _ _ _) hs15 dX7_anew_61
      · replace hf := (if_pos c6).symm.trans hf
        refine V_ldc (q := 41) (n := (-1000002)) hC (by decide) kX7_anew_c178 dX7_anew_39 rfl ?_
        exact V_iret hC hr hlk (re_1 hf) (re_2 hf) (Rg_c rfl) hs dX7_anew_41
    · replace hf := (if_pos c4).symm.trans hf
      refine V_ldc (q := 20) (n := (-1000001)) hC (by decide) kX7_anew_c61 dX7_anew_18 rfl ?_
      exact V_iret hC hr hlk (re_1 hf) (re_2 hf) (Rg_c rfl) hs dX7_anew_20
/-! X7_scrape -/
theorem kX7_scrape_c61 : Cond.constant RX7 61 (-1000001) ∈ wsX7_scrape := by decide +kernel
theorem kX7_scrape_f25 : Cond.fieldLink RX7 25 "BarkNamesModel" "now" "[I" ∈ wsX7_scrape := by decide +kernel
theorem uX7_scrape_7 : ∀ w ∈ u_ws RX7 TX7 22, w ∈ wsX7_scrape := by decide +kernel
abbrev rmX7_scrape : Room := { frames := 2, cells := 0, slots := 0, locals := 45 }
set_option maxHeartbeats 4000000 in
set_option maxRecDepth 100000 in
theorem tlX7_scrape_22 {p : Program} {l : Launch} {e : Env} {s : State} {m : MethodId} {args : Array Value} {below : List Frame} {meth : Method} {c : Code} {G : GT} (hG : GI G) (hC : CX p s m args c cX7_scrape 3 RX7 wsX7_scrape G (AA G)) (hr : meth.sig.returnType = (some .int)) (hlk : meth.locks = false) {r0 : Int × Hp} : ∀ n : Nat, (∀ {σ : Hp} (hs : RgS σ) {v2 : Int} (h2 : Rg v2) (hf : lX7_scrape_22 n σ v2 = some r0), VV p l e (headSpec wsX7_scrape rmX7_scrape).room s m args below meth c (MQ below (QI G r0.1 r0.2) args s 0 0 (AA G)) G (AA G) 0 0 3 σ 22 [(0, rf G 7 0), (2, iv v2)] []) := by
  intro n
  induction n with
  | zero =>
    exact by intro σ hs v2 h2 hf; exact absurd (show (none : Option (Int × Hp)) = some r0 from hf) (fun z => by cases z)
  | succ n ih =>
    intro σ hs v2 h2 hf
    replace hf := (lX7_scrape_22_e0 n σ v2).symm.trans hf
    refine V_iload_n (k := 2) (q := 23) hC 1 rfl dX7_scrape_22 rfl ?_
    refine V_bipush (q := 25) hC (by decide) dX7_scrape_23 rfl ?_
    refine V_icmp_ge (tgt := 60) (q := 28) hC h2 (Rg_c rfl) dX7_scrape_25 (by decide) rfl (fun c8 => ?_) (fun c8 => ?_)
    · replace hf := (if_pos c8).symm.trans hf
      refine V_aload_n (k := 0) (q := 61) hC 0 rfl dX7_scrape_60 rfl ?_
      refine V_getf (T := TX7) (k := 13) (q := 64) hC uX7_scrape_7 rfl iD7 rfl (by decide) kX7_scrape_f25 rfl dX7_scrape_61 rfl ?_
      refine V_iconst (q := 65) hC dX7_scrape_64 rfl ?_
      refine V_dup2 (q := 66) hC rfl rfl dX7_scrape_65 rfl ?_
      refine V_iald (n := 48) (q := 67) hC iD27 rfl ⟨by decide, by decide⟩ (Rg_c rfl) dX7_scrape_66 rfl ?_
      refine V_iconst (q := 68) hC dX7_scrape_67 rfl ?_
      refine V_isub (q := 69) hC dX7_scrape_68 rfl ?_
      obtain ⟨σ9, e10, hf⟩ := sq_ex hf
      have hs11 : RgS σ9 := by rw [e10]; exact RgS_hup hs (Rg_wr _)
      refine V_iast (n := 48) (q := 70) hC iD27 rfl ⟨by decide, by decide⟩ (Rg_c rfl) e10 dX7_scrape_69 rfl ?_
      refine V_aload_n (k := 0) (q := 71) hC 0 rfl dX7_scrape_70 rfl ?_
      refine V_getf (T := TX7) (k := 13) (q := 74) hC uX7_scrape_7 rfl iD7 rfl (by decide) kX7_scrape_f25 rfl dX7_scrape_71 rfl ?_
      refine V_iconst (q := 75) hC dX7_scrape_74 rfl ?_
      refine V_iald (n := 48) (q := 76) hC iD27 rfl ⟨by decide, by decide⟩ (Rg_c rfl) dX7_scrape_75 rfl ?_
      exact V_iret hC hr hlk (re_1 hf) (re_2 hf) (hs11 _ _ _) hs11 dX7_scrape_76
    · replace hf := (if_neg c8).symm.trans hf
      refine V_aload_n (k := 0) (q := 29) hC 0 rfl dX7_scrape_28 rfl ?_
      refine V_getf (T := TX7) (k := 13) (q := 32) hC uX7_scrape_7 rfl iD7 rfl (by decide) kX7_scrape_f25 rfl dX7_scrape_29 rfl ?_
      refine V_iload_n (k := 2) (q := 33) hC 1 rfl dX7_scrape_32 rfl ?_
      refine V_iload_n (k := 2) (q := 34) hC 1 rfl dX7_scrape_33 rfl ?_
      refine V_iconst (q := 35) hC dX7_scrape_34 rfl ?_
      refine V_iadd (q := 36) hC dX7_scrape_35 rfl ?_
      refine V_bipush (q := 38) hC (by decide) dX7_scrape_36 rfl ?_
      refine V_icmp_ge (tgt := 52) (q := 41) hC (Rg_wr _) (Rg_c rfl) dX7_scrape_38 (by decide) rfl (fun c12 => ?_) (fun c12 => ?_)
      · replace hf := (if_pos c12).symm.trans hf
        refine V_iconst (q := 53) hC dX7_scrape_52 rfl ?_
        obtain ⟨g13, hf⟩ := gd_some hf
        obtain ⟨σ14, e15, hf⟩ := sq_ex hf
        have hs16 : RgS σ14 := by rw [e15]; exact RgS_hup hs (Rg_c rfl)
        refine V_iast (n := 48) (q := 54) hC iD27 rfl g13 h2 e15 dX7_scrape_53 rfl ?_
        refine V_iinc (i := 2) (lv' := [(0, rf G 7 0), (2, iv (wr (v2 + 1)))]) (q := 57) hC 1 rfl [1, 0] (by decide) rfl dX7_scrape_54 rfl ?_
        refine V_goto (tgt := 22) hC dX7_scrape_57 (by decide) ?_
        refine V_lsub [0, 1] rfl ?_
        exact ih hs16 (Rg_wr _) hf
      · replace hf := (if_neg c12).symm.trans hf
        refine V_aload_n (k := 0) (q := 42) hC 0 rfl dX7_scrape_41 rfl ?_
        refine V_getf (T := TX7) (k := 13) (q := 45) hC uX7_scrape_7 rfl iD7 rfl (by decide) kX7_scrape_f25 rfl dX7_scrape_42 rfl ?_
        refine V_iload_n (k := 2) (q := 46) hC 1 rfl dX7_scrape_45 rfl ?_
        refine V_iconst (q := 47) hC dX7_scrape_46 rfl ?_
        refine V_iadd (q := 48) hC dX7_scrape_47 rfl ?_
        obtain ⟨g17, hf⟩ := gd_some hf
        refine V_iald (n := 48) (q := 49) hC iD27 rfl g17 (Rg_wr _) dX7_scrape_48 rfl ?_
        refine V_goto (tgt := 53) hC dX7_scrape_49 (by decide) ?_
        obtain ⟨g18, hf⟩ := gd_some hf
        obtain ⟨σ19, e20, hf⟩ := sq_ex hf
        have hs21 : RgS σ19 := by rw [e20]; exact RgS_hup hs (hs _ _ _)
        refine V_iast (n := 48) (q := 54) hC iD27 rfl g18 h2 e20 dX7_scrape_53 rfl ?_
        refine V_iinc (i := 2) (lv' := [(0, rf G 7 0), (2, iv (wr (v2 + 1)))]) (q := 57) hC 1 rfl [1, 0] (by decide) rfl dX7_scrape_54 rfl ?_
        refine V_goto (tgt := 22) hC dX7_scrape_57 (by decide) ?_
        refine V_lsub [0, 1] rfl ?_
        exact ih hs21 (Rg_wr _) hf
set_option maxHeartbeats 4000000 in
set_option maxRecDepth 100000 in
theorem sX7_scrape (l : Launch) {G : GT} (hG : GI G) {v1 : Int} (h1 : Rg v1) {σ : Hp} (hs : RgS σ) {r0 : Int × Hp} (hf : fX7_scrape σ v1 = some r0) : Cti l G yX7_scrape wsX7_scrape rmX7_scrape [rf G 7 0, iv v1] σ r0.1 r0.2 := by
  unfold fX7_scrape at hf
  refine Cti_start (lv := [(0, rf G 7 0), (1, iv v1)]) (ret := (some .int)) (by decide +kernel) rfl hG (Nat.le_of_ble_eq_true rfl) rfl (fun p e s m args below meth c hC hr hlk => ?_)
  refine V_aload_n (k := 0) (q := 1) hC 0 rfl dX7_scrape_0 rfl ?_
  refine V_iload_n (k := 1) (q := 2) hC 1 rfl dX7_scrape_1 rfl ?_
  refine V_cvi (st := []) (q := 5) hC (sX7_isCut l hG h1 hs) (cwV 1 hC.2.2.2.2.1 gX7_scrape_X7_isCut rfl rfl rfl (by decide +kernel) ⟨Nat.le_of_ble_eq_true rfl, Nat.le_of_ble_eq_true rfl⟩) ⟨_, rfl, rfl⟩ iD7 (fun _ => ⟨_, rfl⟩) rfl rfl (Nat.le_of_ble_eq_true rfl) dX7_scrape_2 rfl ⟨Nat.zero_le _, Nat.zero_le _⟩ (fun hr1 _ => ?_)
  refine V_if_ne (tgt := 11) (q := 8) hC hr1 dX7_scrape_5 (by decide) rfl (fun c2 => ?_) (fun c2 => ?_)
  · replace hf := (if_neg c2).symm.trans hf
    refine V_aload_n (k := 0) (q := 12) hC 0 rfl dX7_scrape_11 rfl ?_
    obtain ⟨r3, σ4, hc5, hf⟩ := cl_some hf
    refine V_cvv (st := []) (q := 15) (σ0 := σ4) hC (sX7_notes l hG  hs hc5) (cwV 0 hC.2.2.2.2.1 gX7_scrape_X7_notes rfl rfl rfl (by decide +kernel) ⟨Nat.le_of_ble_eq_true rfl, Nat.le_of_ble_eq_true rfl⟩) ⟨_, rfl, rfl⟩ iD7 (fun _ => ⟨_, rfl⟩) rfl rfl (Nat.le_of_ble_eq_true rfl) dX7_scrape_12 rfl ⟨Nat.zero_le _, Nat.zero_le _⟩ (fun hs7 => ?_)
    refine V_bipush (q := 17) hC (by decide) dX7_scrape_15 rfl ?_
    refine V_iconst (q := 18) hC dX7_scrape_17 rfl ?_
    refine V_iload_n (k := 1) (q := 19) hC 1 rfl dX7_scrape_18 rfl ?_
    refine V_imul (q := 20) hC dX7_scrape_19 rfl ?_
    refine V_iadd (q := 21) hC dX7_scrape_20 rfl ?_
    refine V_istore_n (k := 2) (i := 2) (lv' := [(0, rf G 7 0), (1, iv v1), (2, iv (wr (16 + (wr (4 * v1)))))]) (q := 22) hC [1, 2, 0] rfl (by decide) rfl dX7_scrape_21 rfl ?_
    refine V_lsub [0, 2] rfl ?_
    exact (tlX7_scrape_22 hG hC hr hlk FU) hs7 (Rg_wr _) hf
  · replace hf := (if_pos c2).symm.trans hf
    refine V_ldc (q := 10) (n := (-1000001)) hC (by decide) kX7_scrape_c61 dX7_scrape_8 rfl ?_
    exact V_iret hC hr hlk (re_1 hf) (re_2 hf) (Rg_c rfl) hs dX7_scrape_10
/-! X7_undo -/
theorem kX7_undo_f139 : Cond.fieldLink RX7 139 "BarkNamesModel" "acts" "I" ∈ wsX7_undo := by decide +kernel
theorem uX7_undo_7 : ∀ w ∈ u_ws RX7 TX7 22, w ∈ wsX7_undo := by decide +kernel
theorem kX7_undo_f31 : Cond.fieldLink RX7 31 "BarkNamesModel" "past" "[I" ∈ wsX7_undo := by decide +kernel
theorem kX7_undo_f25 : Cond.fieldLink RX7 25 "BarkNamesModel" "now" "[I" ∈ wsX7_undo := by decide +kernel
theorem kX7_undo_c178 : Cond.constant RX7 178 (-1000002) ∈ wsX7_undo := by decide +kernel
abbrev rmX7_undo : Room := { frames := 1, cells := 0, slots := 0, locals := 24 }
set_option maxHeartbeats 4000000 in
set_option maxRecDepth 100000 in
theorem sX7_undo (l : Launch) {G : GT} (hG : GI G) {σ : Hp} (hs : RgS σ) {r0 : Int × Hp} (hf : fX7_undo σ = some r0) : Cti l G yX7_undo wsX7_undo rmX7_undo [rf G 7 0] σ r0.1 r0.2 := by
  unfold fX7_undo at hf
  refine Cti_start (lv := [(0, rf G 7 0)]) (ret := (some .int)) (by decide +kernel) rfl hG (Nat.le_of_ble_eq_true rfl) rfl (fun p e s m args below meth c hC hr hlk => ?_)
  refine V_aload_n (k := 0) (q := 1) hC 0 rfl dX7_undo_0 rfl ?_
  refine V_getf (T := TX7) (k := 16) (q := 4) hC uX7_undo_7 rfl iD7 rfl (by decide) kX7_undo_f139 rfl dX7_undo_1 rfl ?_
  refine V_if_ne (tgt := 10) (q := 7) hC (hs _ _ _) dX7_undo_4 (by decide) rfl (fun c1 => ?_) (fun c1 => ?_)
  · replace hf := (if_neg c1).symm.trans hf
    refine V_aload_n (k := 0) (q := 11) hC 0 rfl dX7_undo_10 rfl ?_
    refine V_dup (q := 12) hC rfl dX7_undo_11 rfl ?_
    refine V_getf (T := TX7) (k := 16) (q := 15) hC uX7_undo_7 rfl iD7 rfl (by decide) kX7_undo_f139 rfl dX7_undo_12 rfl ?_
    refine V_iconst (q := 16) hC dX7_undo_15 rfl ?_
    refine V_isub (q := 17) hC dX7_undo_16 rfl ?_
    obtain ⟨σ2, e3, hf⟩ := sq_ex hf
    have hs4 : RgS σ2 := by rw [e3]; exact RgS_hup hs (Rg_wr _)
    refine V_putf (T := TX7) (k := 16) (ty := .int) (q := 20) hC uX7_undo_7 rfl tyX7 tyX7_ok nmX7 iD7 rfl (pf_7_16 _ _ _ _ rfl) (by decide) kX7_undo_f139 rfl (by decide +kernel) rfl rfl (Nat.le_of_ble_eq_true rfl) e3 dX7_undo_17 rfl ?_
    refine V_aload_n (k := 0) (q := 21) hC 0 rfl dX7_undo_20 rfl ?_
    refine V_getf (T := TX7) (k := 15) (q := 24) hC uX7_undo_7 rfl iD7 rfl (by decide) kX7_undo_f31 rfl dX7_undo_21 rfl ?_
    refine V_bipush (q := 26) hC (by decide) dX7_undo_24 rfl ?_
    refine V_aload_n (k := 0) (q := 27) hC 0 rfl dX7_undo_26 rfl ?_
    refine V_getf (T := TX7) (k := 16) (q := 30) hC uX7_undo_7 rfl iD7 rfl (by decide) kX7_undo_f139 rfl dX7_undo_27 rfl ?_
    refine V_imul (q := 31) hC dX7_undo_30 rfl ?_
    refine V_aload_n (k := 0) (q := 32) hC 0 rfl dX7_undo_31 rfl ?_
    refine V_getf (T := TX7) (k := 13) (q := 35) hC uX7_undo_7 rfl iD7 rfl (by decide) kX7_undo_f25 rfl dX7_undo_32 rfl ?_
    refine V_iconst (q := 36) hC dX7_undo_35 rfl ?_
    obtain ⟨r5, σ6, hc7, hf⟩ := cl_some hf
    refine V_csv (st := []) (q := 39) (σ0 := σ6) hC (sX7_copies l hG iD29 (Rg_wr _) iD27 (Rg_c rfl) hs4 hc7) (va_cwS 4 hC.2.2.2.2.1 gX7_undo_X7_copies rfl rfl rfl (by decide +kernel) ⟨Nat.le_of_ble_eq_true rfl, Nat.le_of_ble_eq_true rfl⟩) rfl rfl (Nat.le_of_ble_eq_true rfl) dX7_undo_36 rfl ⟨Nat.zero_le _, Nat.zero_le _⟩ (fun hs9 => ?_)
    refine V_aload_n (k := 0) (q := 40) hC 0 rfl dX7_undo_39 rfl ?_
    refine V_getf (T := TX7) (k := 16) (q := 43) hC uX7_undo_7 rfl iD7 rfl (by decide) kX7_undo_f139 rfl dX7_undo_40 rfl ?_
    exact V_iret hC hr hlk (re_1 hf) (re_2 hf) (hs9 _ _ _) hs9 dX7_undo_43
  · replace hf := (if_pos c1).symm.trans hf
    refine V_ldc (q := 9) (n := (-1000002)) hC (by decide) kX7_undo_c178 dX7_undo_7 rfl ?_
    exact V_iret hC hr hlk (re_1 hf) (re_2 hf) (Rg_c rfl) hs dX7_undo_9
/-! X7_tree -/
theorem kX7_tree_f25 : Cond.fieldLink RX7 25 "BarkNamesModel" "now" "[I" ∈ wsX7_tree := by decide +kernel
theorem uX7_tree_7 : ∀ w ∈ u_ws RX7 TX7 22, w ∈ wsX7_tree := by decide +kernel
theorem kX7_tree_c61 : Cond.constant RX7 61 (-1000001) ∈ wsX7_tree := by decide +kernel
abbrev rmX7_tree : Room := { frames := 2, cells := 0, slots := 0, locals := 46 }
set_option maxHeartbeats 4000000 in
set_option maxRecDepth 100000 in
theorem sX7_tree (l : Launch) {G : GT} (hG : GI G) {v1 : Int} {v2 : Int} (h1 : Rg v1) (h2 : Rg v2) {σ : Hp} (hs : RgS σ) {r0 : Int × Hp} (hf : fX7_tree σ v1 v2 = some r0) : Cti l G yX7_tree wsX7_tree rmX7_tree [rf G 7 0, iv v1, iv v2] σ r0.1 r0.2 := by
  unfold fX7_tree at hf
  refine Cti_start (lv := [(0, rf G 7 0), (1, iv v1), (2, iv v2)]) (ret := (some .int)) (by decide +kernel) rfl hG (Nat.le_of_ble_eq_true rfl) rfl (fun p e s m args below meth c hC hr hlk => ?_)
  refine V_aload_n (k := 0) (q := 1) hC 0 rfl dX7_tree_0 rfl ?_
  refine V_iload_n (k := 1) (q := 2) hC 1 rfl dX7_tree_1 rfl ?_
  refine V_cvi (st := []) (q := 5) hC (sX7_isTree l hG h1 hs) (cwV 1 hC.2.2.2.2.1 gX7_tree_X7_isTree rfl rfl rfl (by decide +kernel) ⟨Nat.le_of_ble_eq_true rfl, Nat.le_of_ble_eq_true rfl⟩) ⟨_, rfl, rfl⟩ iD7 (fun _ => ⟨_, rfl⟩) rfl rfl (Nat.le_of_ble_eq_true rfl) dX7_tree_2 rfl ⟨Nat.zero_le _, Nat.zero_le _⟩ (fun hr1 _ => ?_)
  refine V_if_ne (tgt := 11) (q := 8) hC hr1 dX7_tree_5 (by decide) rfl (fun c2 => ?_) (fun c2 => ?_)
  · replace hf := (if_neg c2).symm.trans hf
    refine V_iconst (q := 12) hC dX7_tree_11 rfl ?_
    refine V_iconst (q := 13) hC dX7_tree_12 rfl ?_
    refine V_iload_n (k := 1) (q := 14) hC 1 rfl dX7_tree_13 rfl ?_
    refine V_imul (q := 15) hC dX7_tree_14 rfl ?_
    refine V_iadd (q := 16) hC dX7_tree_15 rfl ?_
    refine V_istore_n (k := 3) (i := 3) (lv' := [(0, rf G 7 0), (1, iv v1), (2, iv v2), (3, iv (wr (4 + (wr (3 * v1)))))]) (q := 17) hC [1, 2, 3, 0] rfl (by decide) rfl dX7_tree_16 rfl ?_
    refine V_iload_n (k := 2) (q := 18) hC 2 rfl dX7_tree_17 rfl ?_
    by_cases c3 : v2 = 0
    · replace hf := (if_pos c3).symm.trans hf
      refine V_tabIn (tgt := 48) hC h2 dX7_tree_18 (by omega) (by omega) (by rw [c3]; rfl) (by decide) ?_
      refine V_aload_n (k := 0) (q := 49) hC 0 rfl dX7_tree_48 rfl ?_
      refine V_getf (T := TX7) (k := 13) (q := 52) hC uX7_tree_7 rfl iD7 rfl (by decide) kX7_tree_f25 rfl dX7_tree_49 rfl ?_
      refine V_iload_n (k := 3) (q := 53) hC 3 rfl dX7_tree_52 rfl ?_
      refine V_iconst (q := 54) hC dX7_tree_53 rfl ?_
      refine V_iadd (q := 55) hC dX7_tree_54 rfl ?_
      obtain ⟨g4, hf⟩ := gd_some hf
      refine V_iald (n := 48) (q := 56) hC iD27 rfl g4 (Rg_wr _) dX7_tree_55 rfl ?_
      exact V_iret hC hr hlk (re_1 hf) (re_2 hf) (hs _ _ _) hs dX7_tree_56
    · replace hf := (if_neg c3).symm.trans hf
      by_cases c5 : v2 = 1
      · replace hf := (if_pos c5).symm.trans hf
        refine V_tabIn (tgt := 57) hC h2 dX7_tree_18 (by omega) (by omega) (by rw [c5]; rfl) (by decide) ?_
        refine V_aload_n (k := 0) (q := 58) hC 0 rfl dX7_tree_57 rfl ?_
        refine V_getf (T := TX7) (k := 13) (q := 61) hC uX7_tree_7 rfl iD7 rfl (by decide) kX7_tree_f25 rfl dX7_tree_58 rfl ?_
        refine V_iload_n (k := 3) (q := 62) hC 3 rfl dX7_tree_61 rfl ?_
        refine V_iconst (q := 63) hC dX7_tree_62 rfl ?_
        refine V_iadd (q := 64) hC dX7_tree_63 rfl ?_
        obtain ⟨g6, hf⟩ := gd_some hf
        refine V_iald (n := 48) (q := 65) hC iD27 rfl g6 (Rg_wr _) dX7_tree_64 rfl ?_
        exact V_iret hC hr hlk (re_1 hf) (re_2 hf) (hs _ _ _) hs dX7_tree_65
      · replace hf := (if_neg c5).symm.trans hf
        by_cases c7 : v2 = 2
        · replace hf := (if_pos c7).symm.trans hf
          refine V_tabIn (tgt := 66) hC h2 dX7_tree_18 (by omega) (by omega) (by rw [c7]; rfl) (by decide) ?_
          refine V_aload_n (k := 0) (q := 67) hC 0 rfl dX7_tree_66 rfl ?_
          refine V_getf (T := TX7) (k := 13) (q := 70) hC uX7_tree_7 rfl iD7 rfl (by decide) kX7_tree_f25 rfl dX7_tree_67 rfl ?_
          refine V_iload_n (k := 1) (q := 71) hC 1 rfl dX7_tree_70 rfl ?_
          obtain ⟨r8, σ9, hc10, hf⟩ := cl_some hf
          refine V_csi (st := []) (q := 74) (x0 := r8) (σ0 := σ9) hC (sX7_legible l hG iD27 h1 hs hc10) (va_cwS 2 hC.2.2.2.2.1 gX7_tree_X7_legible rfl rfl rfl (by decide +kernel) ⟨Nat.le_of_ble_eq_true rfl, Nat.le_of_ble_eq_true rfl⟩) rfl rfl (Nat.le_of_ble_eq_true rfl) dX7_tree_71 rfl ⟨Nat.zero_le _, Nat.zero_le _⟩ (fun hr11 hs12 => ?_)
          exact V_iret hC hr hlk (re_1 hf) (re_2 hf) hr11 hs12 dX7_tree_74
        · replace hf := (if_neg c7).symm.trans hf
          by_cases c13 : v2 = 3
          · replace hf := (if_pos c13).symm.trans hf
            refine V_tabIn (tgt := 75) hC h2 dX7_tree_18 (by omega) (by omega) (by rw [c13]; rfl) (by decide) ?_
            refine V_aload_n (k := 0) (q := 76) hC 0 rfl dX7_tree_75 rfl ?_
            refine V_getf (T := TX7) (k := 13) (q := 79) hC uX7_tree_7 rfl iD7 rfl (by decide) kX7_tree_f25 rfl dX7_tree_76 rfl ?_
            refine V_iload_n (k := 3) (q := 80) hC 3 rfl dX7_tree_79 rfl ?_
            obtain ⟨g14, hf⟩ := gd_some hf
            refine V_iald (n := 48) (q := 81) hC iD27 rfl g14 (Rg_wr _) dX7_tree_80 rfl ?_
            refine V_aload_n (k := 0) (q := 82) hC 0 rfl dX7_tree_81 rfl ?_
            refine V_getf (T := TX7) (k := 13) (q := 85) hC uX7_tree_7 rfl iD7 rfl (by decide) kX7_tree_f25 rfl dX7_tree_82 rfl ?_
            refine V_iload_n (k := 3) (q := 86) hC 3 rfl dX7_tree_85 rfl ?_
            refine V_iconst (q := 87) hC dX7_tree_86 rfl ?_
            refine V_iadd (q := 88) hC dX7_tree_87 rfl ?_
            obtain ⟨g15, hf⟩ := gd_some hf
            refine V_iald (n := 48) (q := 89) hC iD27 rfl g15 (Rg_wr _) dX7_tree_88 rfl ?_
            refine V_aload_n (k := 0) (q := 90) hC 0 rfl dX7_tree_89 rfl ?_
            refine V_getf (T := TX7) (k := 13) (q := 93) hC uX7_tree_7 rfl iD7 rfl (by decide) kX7_tree_f25 rfl dX7_tree_90 rfl ?_
            refine V_iload_n (k := 3) (q := 94) hC 3 rfl dX7_tree_93 rfl ?_
            refine V_iconst (q := 95) hC dX7_tree_94 rfl ?_
            refine V_iadd (q := 96) hC dX7_tree_95 rfl ?_
            obtain ⟨g16, hf⟩ := gd_some hf
            refine V_iald (n := 48) (q := 97) hC iD27 rfl g16 (Rg_wr _) dX7_tree_96 rfl ?_
            refine V_aload_n (k := 0) (q := 98) hC 0 rfl dX7_tree_97 rfl ?_
            refine V_getf (T := TX7) (k := 13) (q := 101) hC uX7_tree_7 rfl iD7 rfl (by decide) kX7_tree_f25 rfl dX7_tree_98 rfl ?_
            refine V_iconst (q := 102) hC dX7_tree_101 rfl ?_
            refine V_iald (n := 48) (q := 103) hC iD27 rfl ⟨by decide, by decide⟩ (Rg_c rfl) dX7_tree_102 rfl ?_
            refine V_csi (st := []) (q := 106) hC (sX7_growth l hG (hs _ _ _) (hs _ _ _) (hs _ _ _) (hs _ _ _) hs) (va_cwS 4 hC.2.2.2.2.1 gX7_tree_X7_growth rfl rfl rfl (by decide +kernel) ⟨Nat.le_of_ble_eq_true rfl, Nat.le_of_ble_eq_true rfl⟩) rfl rfl (Nat.le_of_ble_eq_true rfl) dX7_tree_103 rfl ⟨Nat.zero_le _, Nat.zero_le _⟩ (fun hr17 _ => ?_)
            exact V_iret hC hr hlk (re_1 hf) (re_2 hf) hr17 hs dX7_tree_106
          · replace hf := (if_neg c13).symm.trans hf
            refine V_tabOut (tgt := 107) hC h2 dX7_tree_18 (by omega) (by decide) ?_
            refine V_ldc (q := 109) (n := (-1000001)) hC (by decide) kX7_tree_c61 dX7_tree_107 rfl ?_
            exact V_iret hC hr hlk (re_1 hf) (re_2 hf) (Rg_c rfl) hs dX7_tree_109
  · replace hf := (if_pos c2).symm.trans hf
    refine V_ldc (q := 10) (n := (-1000001)) hC (by decide) kX7_tree_c61 dX7_tree_8 rfl ?_
    exact V_iret hC hr hlk (re_1 hf) (re_2 hf) (Rg_c rfl) hs dX7_tree_10
/-! X7_cutHas -/
theorem kX7_cutHas_c61 : Cond.constant RX7 61 (-1000001) ∈ wsX7_cutHas := by decide +kernel
theorem kX7_cutHas_f25 : Cond.fieldLink RX7 25 "BarkNamesModel" "now" "[I" ∈ wsX7_cutHas := by decide +kernel
theorem uX7_cutHas_7 : ∀ w ∈ u_ws RX7 TX7 22, w ∈ wsX7_cutHas := by decide +kernel
abbrev rmX7_cutHas : Room := { frames := 2, cells := 0, slots := 0, locals := 43 }
set_option maxHeartbeats 4000000 in
set_option maxRecDepth 100000 in
theorem sX7_cutHas (l : Launch) {G : GT} (hG : GI G) {v1 : Int} {v2 : Int} (h1 : Rg v1) (h2 : Rg v2) {σ : Hp} (hs : RgS σ) {r0 : Int × Hp} (hf : fX7_cutHas σ v1 v2 = some r0) : Cti l G yX7_cutHas wsX7_cutHas rmX7_cutHas [rf G 7 0, iv v1, iv v2] σ r0.1 r0.2 := by
  unfold fX7_cutHas at hf
  refine Cti_start (lv := [(0, rf G 7 0), (1, iv v1), (2, iv v2)]) (ret := (some .int)) (by decide +kernel) rfl hG (Nat.le_of_ble_eq_true rfl) rfl (fun p e s m args below meth c hC hr hlk => ?_)
  refine V_aload_n (k := 0) (q := 1) hC 0 rfl dX7_cutHas_0 rfl ?_
  refine V_iload_n (k := 1) (q := 2) hC 1 rfl dX7_cutHas_1 rfl ?_
  refine V_cvi (st := []) (q := 5) hC (sX7_isCut l hG h1 hs) (cwV 1 hC.2.2.2.2.1 gX7_cutHas_X7_isCut rfl rfl rfl (by decide +kernel) ⟨Nat.le_of_ble_eq_true rfl, Nat.le_of_ble_eq_true rfl⟩) ⟨_, rfl, rfl⟩ iD7 (fun _ => ⟨_, rfl⟩) rfl rfl (Nat.le_of_ble_eq_true rfl) dX7_cutHas_2 rfl ⟨Nat.zero_le _, Nat.zero_le _⟩ (fun hr1 _ => ?_)
  refine V_if_eq (tgt := 33) (q := 8) hC hr1 dX7_cutHas_5 (by decide) rfl (fun c2 => ?_) (fun c2 => ?_)
  · replace hf := (if_pos c2).symm.trans hf
    refine V_ldc (q := 35) (n := (-1000001)) hC (by decide) kX7_cutHas_c61 dX7_cutHas_33 rfl ?_
    exact V_iret hC hr hlk (re_1 hf) (re_2 hf) (Rg_c rfl) hs dX7_cutHas_35
  · replace hf := (if_neg c2).symm.trans hf
    refine V_iload_n (k := 2) (q := 9) hC 2 rfl dX7_cutHas_8 rfl ?_
    refine V_iconst (q := 10) hC dX7_cutHas_9 rfl ?_
    refine V_iconst (q := 11) hC dX7_cutHas_10 rfl ?_
    refine V_csi (st := []) (q := 14) hC (sX7_in l hG h2 (Rg_c rfl) (Rg_c rfl) hs) (va_cwS 3 hC.2.2.2.2.1 gX7_cutHas_X7_in rfl rfl rfl (by decide +kernel) ⟨Nat.le_of_ble_eq_true rfl, Nat.le_of_ble_eq_true rfl⟩) rfl rfl (Nat.le_of_ble_eq_true rfl) dX7_cutHas_11 rfl ⟨Nat.zero_le _, Nat.zero_le _⟩ (fun hr3 _ => ?_)
    refine V_if_eq (tgt := 33) (q := 17) hC hr3 dX7_cutHas_14 (by decide) rfl (fun c4 => ?_) (fun c4 => ?_)
    · replace hf := (if_pos c4).symm.trans hf
      refine V_ldc (q := 35) (n := (-1000001)) hC (by decide) kX7_cutHas_c61 dX7_cutHas_33 rfl ?_
      exact V_iret hC hr hlk (re_1 hf) (re_2 hf) (Rg_c rfl) hs dX7_cutHas_35
    · replace hf := (if_neg c4).symm.trans hf
      refine V_aload_n (k := 0) (q := 18) hC 0 rfl dX7_cutHas_17 rfl ?_
      refine V_getf (T := TX7) (k := 13) (q := 21) hC uX7_cutHas_7 rfl iD7 rfl (by decide) kX7_cutHas_f25 rfl dX7_cutHas_18 rfl ?_
      refine V_bipush (q := 23) hC (by decide) dX7_cutHas_21 rfl ?_
      refine V_iconst (q := 24) hC dX7_cutHas_23 rfl ?_
      refine V_iload_n (k := 1) (q := 25) hC 1 rfl dX7_cutHas_24 rfl ?_
      refine V_imul (q := 26) hC dX7_cutHas_25 rfl ?_
      refine V_iadd (q := 27) hC dX7_cutHas_26 rfl ?_
      refine V_iload_n (k := 2) (q := 28) hC 2 rfl dX7_cutHas_27 rfl ?_
      refine V_iadd (q := 29) hC dX7_cutHas_28 rfl ?_
      obtain ⟨g5, hf⟩ := gd_some hf
      refine V_iald (n := 48) (q := 30) hC iD27 rfl g5 (Rg_wr _) dX7_cutHas_29 rfl ?_
      refine V_goto (tgt := 35) hC dX7_cutHas_30 (by decide) ?_
      exact V_iret hC hr hlk (re_1 hf) (re_2 hf) (hs _ _ _) hs dX7_cutHas_35
/-! X7_areOfOne -/
theorem kX7_areOfOne_f25 : Cond.fieldLink RX7 25 "BarkNamesModel" "now" "[I" ∈ wsX7_areOfOne := by decide +kernel
theorem uX7_areOfOne_7 : ∀ w ∈ u_ws RX7 TX7 22, w ∈ wsX7_areOfOne := by decide +kernel
abbrev rmX7_areOfOne : Room := { frames := 2, cells := 0, slots := 0, locals := 43 }
set_option maxHeartbeats 4000000 in
set_option maxRecDepth 100000 in
theorem sX7_areOfOne (l : Launch) {G : GT} (hG : GI G) {v1 : Int} {v2 : Int} (h1 : Rg v1) (h2 : Rg v2) {σ : Hp} (hs : RgS σ) {r0 : Int × Hp} (hf : fX7_areOfOne σ v1 v2 = some r0) : Cti l G yX7_areOfOne wsX7_areOfOne rmX7_areOfOne [rf G 7 0, iv v1, iv v2] σ r0.1 r0.2 := by
  unfold fX7_areOfOne at hf
  refine Cti_start (lv := [(0, rf G 7 0), (1, iv v1), (2, iv v2)]) (ret := (some .boolean)) (by decide +kernel) rfl hG (Nat.le_of_ble_eq_true rfl) rfl (fun p e s m args below meth c hC hr hlk => ?_)
  refine V_aload_n (k := 0) (q := 1) hC 0 rfl dX7_areOfOne_0 rfl ?_
  refine V_iload_n (k := 1) (q := 2) hC 1 rfl dX7_areOfOne_1 rfl ?_
  refine V_cvi (st := []) (q := 5) hC (sX7_isCut l hG h1 hs) (cwV 1 hC.2.2.2.2.1 gX7_areOfOne_X7_isCut rfl rfl rfl (by decide +kernel) ⟨Nat.le_of_ble_eq_true rfl, Nat.le_of_ble_eq_true rfl⟩) ⟨_, rfl, rfl⟩ iD7 (fun _ => ⟨_, rfl⟩) rfl rfl (Nat.le_of_ble_eq_true rfl) dX7_areOfOne_2 rfl ⟨Nat.zero_le _, Nat.zero_le _⟩ (fun hr1 _ => ?_)
  refine V_if_eq (tgt := 50) (q := 8) hC hr1 dX7_areOfOne_5 (by decide) rfl (fun c2 => ?_) (fun c2 => ?_)
  · replace hf := (if_pos c2).symm.trans hf
    refine V_iconst (q := 51) hC dX7_areOfOne_50 rfl ?_
    exact V_zret hC hr hlk (Or.inl rfl) (re_1 hf) (re_2 hf) hs dX7_areOfOne_51
  · replace hf := (if_neg c2).symm.trans hf
    refine V_aload_n (k := 0) (q := 9) hC 0 rfl dX7_areOfOne_8 rfl ?_
    refine V_iload_n (k := 2) (q := 10) hC 2 rfl dX7_areOfOne_9 rfl ?_
    refine V_cvi (st := []) (q := 13) hC (sX7_isCut l hG h2 hs) (cwV 1 hC.2.2.2.2.1 gX7_areOfOne_X7_isCut rfl rfl rfl (by decide +kernel) ⟨Nat.le_of_ble_eq_true rfl, Nat.le_of_ble_eq_true rfl⟩) ⟨_, rfl, rfl⟩ iD7 (fun _ => ⟨_, rfl⟩) rfl rfl (Nat.le_of_ble_eq_true rfl) dX7_areOfOne_10 rfl ⟨Nat.zero_le _, Nat.zero_le _⟩ (fun hr3 _ => ?_)
    refine V_if_eq (tgt := 50) (q := 16) hC hr3 dX7_areOfOne_13 (by decide) rfl (fun c4 => ?_) (fun c4 => ?_)
    · replace hf := (if_pos c4).symm.trans hf
      refine V_iconst (q := 51) hC dX7_areOfOne_50 rfl ?_
      exact V_zret hC hr hlk (Or.inl rfl) (re_1 hf) (re_2 hf) hs dX7_areOfOne_51
    · replace hf := (if_neg c4).symm.trans hf
      refine V_iload_n (k := 1) (q := 17) hC 1 rfl dX7_areOfOne_16 rfl ?_
      refine V_iload_n (k := 2) (q := 18) hC 2 rfl dX7_areOfOne_17 rfl ?_
      refine V_icmp_eq (tgt := 50) (q := 21) hC h1 h2 dX7_areOfOne_18 (by decide) rfl (fun c5 => ?_) (fun c5 => ?_)
      · replace hf := (if_pos c5).symm.trans hf
        refine V_iconst (q := 51) hC dX7_areOfOne_50 rfl ?_
        exact V_zret hC hr hlk (Or.inl rfl) (re_1 hf) (re_2 hf) hs dX7_areOfOne_51
      · replace hf := (if_neg c5).symm.trans hf
        refine V_aload_n (k := 0) (q := 22) hC 0 rfl dX7_areOfOne_21 rfl ?_
        refine V_getf (T := TX7) (k := 13) (q := 25) hC uX7_areOfOne_7 rfl iD7 rfl (by decide) kX7_areOfOne_f25 rfl dX7_areOfOne_22 rfl ?_
        refine V_bipush (q := 27) hC (by decide) dX7_areOfOne_25 rfl ?_
        refine V_iconst (q := 28) hC dX7_areOfOne_27 rfl ?_
        refine V_iload_n (k := 1) (q := 29) hC 1 rfl dX7_areOfOne_28 rfl ?_
        refine V_imul (q := 30) hC dX7_areOfOne_29 rfl ?_
        refine V_iadd (q := 31) hC dX7_areOfOne_30 rfl ?_
        obtain ⟨g6, hf⟩ := gd_some hf
        refine V_iald (n := 48) (q := 32) hC iD27 rfl g6 (Rg_wr _) dX7_areOfOne_31 rfl ?_
        refine V_aload_n (k := 0) (q := 33) hC 0 rfl dX7_areOfOne_32 rfl ?_
        refine V_getf (T := TX7) (k := 13) (q := 36) hC uX7_areOfOne_7 rfl iD7 rfl (by decide) kX7_areOfOne_f25 rfl dX7_areOfOne_33 rfl ?_
        refine V_bipush (q := 38) hC (by decide) dX7_areOfOne_36 rfl ?_
        refine V_iconst (q := 39) hC dX7_areOfOne_38 rfl ?_
        refine V_iload_n (k := 2) (q := 40) hC 2 rfl dX7_areOfOne_39 rfl ?_
        refine V_imul (q := 41) hC dX7_areOfOne_40 rfl ?_
        refine V_iadd (q := 42) hC dX7_areOfOne_41 rfl ?_
        obtain ⟨g7, hf⟩ := gd_some hf
        refine V_iald (n := 48) (q := 43) hC iD27 rfl g7 (Rg_wr _) dX7_areOfOne_42 rfl ?_
        refine V_icmp_ne (tgt := 50) (q := 46) hC (hs _ _ _) (hs _ _ _) dX7_areOfOne_43 (by decide) rfl (fun c8 => ?_) (fun c8 => ?_)
        · replace hf := (if_neg c8).symm.trans hf
          refine V_iconst (q := 51) hC dX7_areOfOne_50 rfl ?_
          exact V_zret hC hr hlk (Or.inl rfl) (re_1 hf) (re_2 hf) hs dX7_areOfOne_51
        · replace hf := (if_pos c8).symm.trans hf
          refine V_iconst (q := 47) hC dX7_areOfOne_46 rfl ?_
          refine V_goto (tgt := 51) hC dX7_areOfOne_47 (by decide) ?_
          exact V_zret hC hr hlk (Or.inr rfl) (re_1 hf) (re_2 hf) hs dX7_areOfOne_51
/-! X7_apart -/
theorem kX7_apart_c61 : Cond.constant RX7 61 (-1000001) ∈ wsX7_apart := by decide +kernel
theorem kX7_apart_f25 : Cond.fieldLink RX7 25 "BarkNamesModel" "now" "[I" ∈ wsX7_apart := by decide +kernel
theorem uX7_apart_7 : ∀ w ∈ u_ws RX7 TX7 22, w ∈ wsX7_apart := by decide +kernel
theorem kX7_apart_c47 : Cond.constant RX7 47 (-1000000) ∈ wsX7_apart := by decide +kernel
abbrev rmX7_apart : Room := { frames := 3, cells := 0, slots := 0, locals := 65 }
set_option maxHeartbeats 4000000 in
set_option maxRecDepth 100000 in
theorem tjX7_apart_70 {p : Program} {l : Launch} {e : Env} {s : State} {m : MethodId} {args : Array Value} {below : List Frame} {meth : Method} {c : Code} {G : GT} (hG : GI G) (hC : CX p s m args c cX7_apart 4 RX7 wsX7_apart G (AA G)) (hr : meth.sig.returnType = (some .int)) (hlk : meth.locks = false) {r0 : Int × Hp} {σ : Hp} (hs : RgS σ) {v1 : Int} {v2 : Int} {w0 : Int} (h1 : Rg v1) (h2 : Rg v2) (hw0 : Rg w0) (hf : jX7_apart_70 σ v1 v2 w0 = some r0) : VV p l e (headSpec wsX7_apart rmX7_apart).room s m args below meth c (MQ below (QI G r0.1 r0.2) args s 0 0 (AA G)) G (AA G) 0 0 4 σ 70 [(0, rf G 7 0), (1, iv v1), (2, iv v2)] [iv w0] := by
  unfold jX7_apart_70 at hf
  refine V_istore_n (k := 3) (i := 3) (lv' := [(0, rf G 7 0), (1, iv v1), (2, iv v2), (3, iv w0)]) (q := 71) hC [1, 2, 3, 0] rfl (by decide) rfl dX7_apart_70 rfl ?_
  refine V_iload_n (k := 3) (q := 72) hC 3 rfl dX7_apart_71 rfl ?_
  refine V_if_eq (tgt := 87) (q := 75) hC hw0 dX7_apart_72 (by decide) rfl (fun c16 => ?_) (fun c16 => ?_)
  · replace hf := (if_pos c16).symm.trans hf
    refine V_ldc (q := 89) (n := (-1000000)) hC (by decide) kX7_apart_c47 dX7_apart_87 rfl ?_
    exact V_iret hC hr hlk (re_1 hf) (re_2 hf) (Rg_c rfl) hs dX7_apart_89
  · replace hf := (if_neg c16).symm.trans hf
    refine V_aload_n (k := 0) (q := 76) hC 0 rfl dX7_apart_75 rfl ?_
    refine V_getf (T := TX7) (k := 13) (q := 79) hC uX7_apart_7 rfl iD7 rfl (by decide) kX7_apart_f25 rfl dX7_apart_76 rfl ?_
    refine V_iload_n (k := 1) (q := 80) hC 1 rfl dX7_apart_79 rfl ?_
    refine V_iload_n (k := 2) (q := 81) hC 2 rfl dX7_apart_80 rfl ?_
    obtain ⟨r17, σ18, hc19, hf⟩ := cl_some hf
    refine V_csi (st := []) (q := 84) (x0 := r17) (σ0 := σ18) hC (sX7_apartIn l hG iD27 h1 h2 hs hc19) (va_cwS 3 hC.2.2.2.2.1 gX7_apart_X7_apartIn rfl rfl rfl (by decide +kernel) ⟨Nat.le_of_ble_eq_true rfl, Nat.le_of_ble_eq_true rfl⟩) rfl rfl (Nat.le_of_ble_eq_true rfl) dX7_apart_81 rfl ⟨Nat.zero_le _, Nat.zero_le _⟩ (fun hr20 hs21 => ?_)
    refine V_goto (tgt := 89) hC dX7_apart_84 (by decide) ?_
    exact V_iret hC hr hlk (re_1 hf) (re_2 hf) hr20 hs21 dX7_apart_89
set_option maxHeartbeats 4000000 in
set_option maxRecDepth 100000 in
theorem sX7_apart (l : Launch) {G : GT} (hG : GI G) {v1 : Int} {v2 : Int} (h1 : Rg v1) (h2 : Rg v2) {σ : Hp} (hs : RgS σ) {r0 : Int × Hp} (hf : fX7_apart σ v1 v2 = some r0) : Cti l G yX7_apart wsX7_apart rmX7_apart [rf G 7 0, iv v1, iv v2] σ r0.1 r0.2 := by
  unfold fX7_apart at hf
  refine Cti_start (lv := [(0, rf G 7 0), (1, iv v1), (2, iv v2)]) (ret := (some .int)) (by decide +kernel) rfl hG (Nat.le_of_ble_eq_true rfl) rfl (fun p e s m args below meth c hC hr hlk => ?_)
  refine V_aload_n (k := 0) (q := 1) hC 0 rfl dX7_apart_0 rfl ?_
  refine V_iload_n (k := 1) (q := 2) hC 1 rfl dX7_apart_1 rfl ?_
  refine V_cvi (st := []) (q := 5) hC (sX7_isCut l hG h1 hs) (cwV 1 hC.2.2.2.2.1 gX7_apart_X7_isCut rfl rfl rfl (by decide +kernel) ⟨Nat.le_of_ble_eq_true rfl, Nat.le_of_ble_eq_true rfl⟩) ⟨_, rfl, rfl⟩ iD7 (fun _ => ⟨_, rfl⟩) rfl rfl (Nat.le_of_ble_eq_true rfl) dX7_apart_2 rfl ⟨Nat.zero_le _, Nat.zero_le _⟩ (fun hr1 _ => ?_)
  refine V_if_eq (tgt := 21) (q := 8) hC hr1 dX7_apart_5 (by decide) rfl (fun c2 => ?_) (fun c2 => ?_)
  · replace hf := (if_pos c2).symm.trans hf
    refine V_ldc (q := 23) (n := (-1000001)) hC (by decide) kX7_apart_c61 dX7_apart_21 rfl ?_
    exact V_iret hC hr hlk (re_1 hf) (re_2 hf) (Rg_c rfl) hs dX7_apart_23
  · replace hf := (if_neg c2).symm.trans hf
    refine V_aload_n (k := 0) (q := 9) hC 0 rfl dX7_apart_8 rfl ?_
    refine V_iload_n (k := 2) (q := 10) hC 2 rfl dX7_apart_9 rfl ?_
    refine V_cvi (st := []) (q := 13) hC (sX7_isCut l hG h2 hs) (cwV 1 hC.2.2.2.2.1 gX7_apart_X7_isCut rfl rfl rfl (by decide +kernel) ⟨Nat.le_of_ble_eq_true rfl, Nat.le_of_ble_eq_true rfl⟩) ⟨_, rfl, rfl⟩ iD7 (fun _ => ⟨_, rfl⟩) rfl rfl (Nat.le_of_ble_eq_true rfl) dX7_apart_10 rfl ⟨Nat.zero_le _, Nat.zero_le _⟩ (fun hr3 _ => ?_)
    refine V_if_eq (tgt := 21) (q := 16) hC hr3 dX7_apart_13 (by decide) rfl (fun c4 => ?_) (fun c4 => ?_)
    · replace hf := (if_pos c4).symm.trans hf
      refine V_ldc (q := 23) (n := (-1000001)) hC (by decide) kX7_apart_c61 dX7_apart_21 rfl ?_
      exact V_iret hC hr hlk (re_1 hf) (re_2 hf) (Rg_c rfl) hs dX7_apart_23
    · replace hf := (if_neg c4).symm.trans hf
      refine V_iload_n (k := 1) (q := 17) hC 1 rfl dX7_apart_16 rfl ?_
      refine V_iload_n (k := 2) (q := 18) hC 2 rfl dX7_apart_17 rfl ?_
      refine V_icmp_ne (tgt := 24) (q := 21) hC h1 h2 dX7_apart_18 (by decide) rfl (fun c5 => ?_) (fun c5 => ?_)
      · replace hf := (if_neg c5).symm.trans hf
        refine V_aload_n (k := 0) (q := 25) hC 0 rfl dX7_apart_24 rfl ?_
        refine V_iload_n (k := 1) (q := 26) hC 1 rfl dX7_apart_25 rfl ?_
        refine V_iload_n (k := 2) (q := 27) hC 2 rfl dX7_apart_26 rfl ?_
        obtain ⟨r6, σ7, hc8, hf⟩ := cl_some hf
        refine V_cvi (st := []) (q := 30) (x0 := r6) (σ0 := σ7) hC (sX7_areOfOne l hG h1 h2 hs hc8) (cwV 2 hC.2.2.2.2.1 gX7_apart_X7_areOfOne rfl rfl rfl (by decide +kernel) ⟨Nat.le_of_ble_eq_true rfl, Nat.le_of_ble_eq_true rfl⟩) ⟨_, rfl, rfl⟩ iD7 (fun _ => ⟨_, rfl⟩) rfl rfl (Nat.le_of_ble_eq_true rfl) dX7_apart_27 rfl ⟨Nat.zero_le _, Nat.zero_le _⟩ (fun hr9 hs10 => ?_)
        refine V_if_eq (tgt := 69) (q := 33) hC hr9 dX7_apart_30 (by decide) rfl (fun c11 => ?_) (fun c11 => ?_)
        · replace hf := (if_pos c11).symm.trans hf
          refine V_iconst (q := 70) hC dX7_apart_69 rfl ?_
          refine V_lsub [0, 1, 2] rfl ?_
          exact tjX7_apart_70 hG hC hr hlk hs10 h1 h2 (Rg_c rfl) hf
        · replace hf := (if_neg c11).symm.trans hf
          refine V_aload_n (k := 0) (q := 34) hC 0 rfl dX7_apart_33 rfl ?_
          refine V_getf (T := TX7) (k := 13) (q := 37) hC uX7_apart_7 rfl iD7 rfl (by decide) kX7_apart_f25 rfl dX7_apart_34 rfl ?_
          refine V_bipush (q := 39) hC (by decide) dX7_apart_37 rfl ?_
          refine V_iconst (q := 40) hC dX7_apart_39 rfl ?_
          refine V_iload_n (k := 1) (q := 41) hC 1 rfl dX7_apart_40 rfl ?_
          refine V_imul (q := 42) hC dX7_apart_41 rfl ?_
          refine V_iadd (q := 43) hC dX7_apart_42 rfl ?_
          refine V_iconst (q := 44) hC dX7_apart_43 rfl ?_
          refine V_iadd (q := 45) hC dX7_apart_44 rfl ?_
          obtain ⟨g12, hf⟩ := gd_some hf
          refine V_iald (n := 48) (q := 46) hC iD27 rfl g12 (Rg_wr _) dX7_apart_45 rfl ?_
          refine V_if_le (tgt := 69) (q := 49) hC (hs10 _ _ _) dX7_apart_46 (by decide) rfl (fun c13 => ?_) (fun c13 => ?_)
          · replace hf := (if_pos c13).symm.trans hf
            refine V_iconst (q := 70) hC dX7_apart_69 rfl ?_
            refine V_lsub [0, 1, 2] rfl ?_
            exact tjX7_apart_70 hG hC hr hlk hs10 h1 h2 (Rg_c rfl) hf
          · replace hf := (if_neg c13).symm.trans hf
            refine V_aload_n (k := 0) (q := 50) hC 0 rfl dX7_apart_49 rfl ?_
            refine V_getf (T := TX7) (k := 13) (q := 53) hC uX7_apart_7 rfl iD7 rfl (by decide) kX7_apart_f25 rfl dX7_apart_50 rfl ?_
            refine V_bipush (q := 55) hC (by decide) dX7_apart_53 rfl ?_
            refine V_iconst (q := 56) hC dX7_apart_55 rfl ?_
            refine V_iload_n (k := 2) (q := 57) hC 2 rfl dX7_apart_56 rfl ?_
            refine V_imul (q := 58) hC dX7_apart_57 rfl ?_
            refine V_iadd (q := 59) hC dX7_apart_58 rfl ?_
            refine V_iconst (q := 60) hC dX7_apart_59 rfl ?_
            refine V_iadd (q := 61) hC dX7_apart_60 rfl ?_
            obtain ⟨g14, hf⟩ := gd_some hf
            refine V_iald (n := 48) (q := 62) hC iD27 rfl g14 (Rg_wr _) dX7_apart_61 rfl ?_
            refine V_if_le (tgt := 69) (q := 65) hC (hs10 _ _ _) dX7_apart_62 (by decide) rfl (fun c15 => ?_) (fun c15 => ?_)
            · replace hf := (if_pos c15).symm.trans hf
              refine V_iconst (q := 70) hC dX7_apart_69 rfl ?_
              refine V_lsub [0, 1, 2] rfl ?_
              exact tjX7_apart_70 hG hC hr hlk hs10 h1 h2 (Rg_c rfl) hf
            · replace hf := (if_neg c15).symm.trans hf
              refine V_iconst (q := 66) hC dX7_apart_65 rfl ?_
              refine V_goto (tgt := 70) hC dX7_apart_66 (by decide) ?_
              refine V_lsub [0, 1, 2] rfl ?_
              exact tjX7_apart_70 hG hC hr hlk hs10 h1 h2 (Rg_c rfl) hf
      · replace hf := (if_pos c5).symm.trans hf
        refine V_ldc (q := 23) (n := (-1000001)) hC (by decide) kX7_apart_c61 dX7_apart_21 rfl ?_
        exact V_iret hC hr hlk (re_1 hf) (re_2 hf) (Rg_c rfl) hs dX7_apart_23
/-! X7_together -/
theorem kX7_together_f25 : Cond.fieldLink RX7 25 "BarkNamesModel" "now" "[I" ∈ wsX7_together := by decide +kernel
theorem uX7_together_7 : ∀ w ∈ u_ws RX7 TX7 22, w ∈ wsX7_together := by decide +kernel
theorem kX7_together_c61 : Cond.constant RX7 61 (-1000001) ∈ wsX7_together := by decide +kernel
abbrev rmX7_together : Room := { frames := 4, cells := 0, slots := 0, locals := 94 }
set_option maxHeartbeats 4000000 in
set_option maxRecDepth 100000 in
theorem sX7_together (l : Launch) {G : GT} (hG : GI G) {v1 : Int} {v2 : Int} (h1 : Rg v1) (h2 : Rg v2) {σ : Hp} (hs : RgS σ) {r0 : Int × Hp} (hf : fX7_together σ v1 v2 = some r0) : Cti l G yX7_together wsX7_together rmX7_together [rf G 7 0, iv v1, iv v2] σ r0.1 r0.2 := by
  unfold fX7_together at hf
  refine Cti_start (lv := [(0, rf G 7 0), (1, iv v1), (2, iv v2)]) (ret := (some .int)) (by decide +kernel) rfl hG (Nat.le_of_ble_eq_true rfl) rfl (fun p e s m args below meth c hC hr hlk => ?_)
  refine V_aload_n (k := 0) (q := 1) hC 0 rfl dX7_together_0 rfl ?_
  refine V_iload_n (k := 1) (q := 2) hC 1 rfl dX7_together_1 rfl ?_
  refine V_iload_n (k := 2) (q := 3) hC 2 rfl dX7_together_2 rfl ?_
  obtain ⟨r1, σ2, hc3, hf⟩ := cl_some hf
  refine V_cvi (st := []) (q := 6) (x0 := r1) (σ0 := σ2) hC (sX7_areOfOne l hG h1 h2 hs hc3) (cwV 2 hC.2.2.2.2.1 gX7_together_X7_areOfOne rfl rfl rfl (by decide +kernel) ⟨Nat.le_of_ble_eq_true rfl, Nat.le_of_ble_eq_true rfl⟩) ⟨_, rfl, rfl⟩ iD7 (fun _ => ⟨_, rfl⟩) rfl rfl (Nat.le_of_ble_eq_true rfl) dX7_together_3 rfl ⟨Nat.zero_le _, Nat.zero_le _⟩ (fun hr4 hs5 => ?_)
  refine V_if_ne (tgt := 14) (q := 9) hC hr4 dX7_together_6 (by decide) rfl (fun c6 => ?_) (fun c6 => ?_)
  · replace hf := (if_neg c6).symm.trans hf
    refine V_aload_n (k := 0) (q := 15) hC 0 rfl dX7_together_14 rfl ?_
    refine V_getf (T := TX7) (k := 13) (q := 18) hC uX7_together_7 rfl iD7 rfl (by decide) kX7_together_f25 rfl dX7_together_15 rfl ?_
    refine V_iload_n (k := 1) (q := 19) hC 1 rfl dX7_together_18 rfl ?_
    refine V_iload_n (k := 2) (q := 20) hC 2 rfl dX7_together_19 rfl ?_
    refine V_iconst (q := 21) hC dX7_together_20 rfl ?_
    obtain ⟨r7, σ8, hc9, hf⟩ := cl_some hf
    refine V_csi (st := []) (q := 24) (x0 := r7) (σ0 := σ8) hC (sX7_areTogether l hG iD27 h1 h2 (Rg_c rfl) hs5 hc9) (va_cwS 4 hC.2.2.2.2.1 gX7_together_X7_areTogether rfl rfl rfl (by decide +kernel) ⟨Nat.le_of_ble_eq_true rfl, Nat.le_of_ble_eq_true rfl⟩) rfl rfl (Nat.le_of_ble_eq_true rfl) dX7_together_21 rfl ⟨Nat.zero_le _, Nat.zero_le _⟩ (fun hr10 hs11 => ?_)
    refine V_if_eq (tgt := 31) (q := 27) hC hr10 dX7_together_24 (by decide) rfl (fun c12 => ?_) (fun c12 => ?_)
    · replace hf := (if_pos c12).symm.trans hf
      refine V_iconst (q := 32) hC dX7_together_31 rfl ?_
      exact V_iret hC hr hlk (re_1 hf) (re_2 hf) (Rg_c rfl) hs11 dX7_together_32
    · replace hf := (if_neg c12).symm.trans hf
      refine V_iconst (q := 28) hC dX7_together_27 rfl ?_
      refine V_goto (tgt := 32) hC dX7_together_28 (by decide) ?_
      exact V_iret hC hr hlk (re_1 hf) (re_2 hf) (Rg_c rfl) hs11 dX7_together_32
  · replace hf := (if_pos c6).symm.trans hf
    refine V_ldc (q := 11) (n := (-1000001)) hC (by decide) kX7_together_c61 dX7_together_9 rfl ?_
    refine V_goto (tgt := 32) hC dX7_together_11 (by decide) ?_
    exact V_iret hC hr hlk (re_1 hf) (re_2 hf) (Rg_c rfl) hs5 dX7_together_32
/-! X7_girth -/
theorem kX7_girth_c61 : Cond.constant RX7 61 (-1000001) ∈ wsX7_girth := by decide +kernel
theorem kX7_girth_f41 : Cond.fieldLink RX7 41 "BarkNamesModel" "tried" "[I" ∈ wsX7_girth := by decide +kernel
theorem uX7_girth_7 : ∀ w ∈ u_ws RX7 TX7 22, w ∈ wsX7_girth := by decide +kernel
abbrev rmX7_girth : Room := { frames := 4, cells := 0, slots := 0, locals := 94 }
set_option maxHeartbeats 4000000 in
set_option maxRecDepth 100000 in
theorem sX7_girth (l : Launch) {G : GT} (hG : GI G) {v1 : Int} {v2 : Int} (h1 : Rg v1) (h2 : Rg v2) {σ : Hp} (hs : RgS σ) {r0 : Int × Hp} (hf : fX7_girth σ v1 v2 = some r0) : Cti l G yX7_girth wsX7_girth rmX7_girth [rf G 7 0, iv v1, iv v2] σ r0.1 r0.2 := by
  unfold fX7_girth at hf
  refine Cti_start (lv := [(0, rf G 7 0), (1, iv v1), (2, iv v2)]) (ret := (some .int)) (by decide +kernel) rfl hG (Nat.le_of_ble_eq_true rfl) rfl (fun p e s m args below meth c hC hr hlk => ?_)
  refine V_aload_n (k := 0) (q := 1) hC 0 rfl dX7_girth_0 rfl ?_
  refine V_iload_n (k := 1) (q := 2) hC 1 rfl dX7_girth_1 rfl ?_
  refine V_cvi (st := []) (q := 5) hC (sX7_isTree l hG h1 hs) (cwV 1 hC.2.2.2.2.1 gX7_girth_X7_isTree rfl rfl rfl (by decide +kernel) ⟨Nat.le_of_ble_eq_true rfl, Nat.le_of_ble_eq_true rfl⟩) ⟨_, rfl, rfl⟩ iD7 (fun _ => ⟨_, rfl⟩) rfl rfl (Nat.le_of_ble_eq_true rfl) dX7_girth_2 rfl ⟨Nat.zero_le _, Nat.zero_le _⟩ (fun hr1 _ => ?_)
  refine V_if_eq (tgt := 15) (q := 8) hC hr1 dX7_girth_5 (by decide) rfl (fun c2 => ?_) (fun c2 => ?_)
  · replace hf := (if_pos c2).symm.trans hf
    refine V_ldc (q := 17) (n := (-1000001)) hC (by decide) kX7_girth_c61 dX7_girth_15 rfl ?_
    exact V_iret hC hr hlk (re_1 hf) (re_2 hf) (Rg_c rfl) hs dX7_girth_17
  · replace hf := (if_neg c2).symm.trans hf
    refine V_iload_n (k := 2) (q := 9) hC 2 rfl dX7_girth_8 rfl ?_
    refine V_csi (st := []) (q := 12) hC (sX7_isFar l hG h2 hs) (va_cwS 1 hC.2.2.2.2.1 gX7_girth_X7_isFar rfl rfl rfl (by decide +kernel) ⟨Nat.le_of_ble_eq_true rfl, Nat.le_of_ble_eq_true rfl⟩) rfl rfl (Nat.le_of_ble_eq_true rfl) dX7_girth_9 rfl ⟨Nat.zero_le _, Nat.zero_le _⟩ (fun hr3 _ => ?_)
    refine V_if_ne (tgt := 18) (q := 15) hC hr3 dX7_girth_12 (by decide) rfl (fun c4 => ?_) (fun c4 => ?_)
    · replace hf := (if_neg c4).symm.trans hf
      refine V_aload_n (k := 0) (q := 19) hC 0 rfl dX7_girth_18 rfl ?_
      refine V_iload_n (k := 2) (q := 20) hC 2 rfl dX7_girth_19 rfl ?_
      obtain ⟨r5, σ6, hc7, hf⟩ := cl_some hf
      refine V_cvv (st := []) (q := 23) (σ0 := σ6) hC (sX7_tries l hG h2 hs hc7) (cwV 1 hC.2.2.2.2.1 gX7_girth_X7_tries rfl rfl rfl (by decide +kernel) ⟨Nat.le_of_ble_eq_true rfl, Nat.le_of_ble_eq_true rfl⟩) ⟨_, rfl, rfl⟩ iD7 (fun _ => ⟨_, rfl⟩) rfl rfl (Nat.le_of_ble_eq_true rfl) dX7_girth_20 rfl ⟨Nat.zero_le _, Nat.zero_le _⟩ (fun hs9 => ?_)
      refine V_aload_n (k := 0) (q := 24) hC 0 rfl dX7_girth_23 rfl ?_
      refine V_getf (T := TX7) (k := 19) (q := 27) hC uX7_girth_7 rfl iD7 rfl (by decide) kX7_girth_f41 rfl dX7_girth_24 rfl ?_
      refine V_iconst (q := 28) hC dX7_girth_27 rfl ?_
      refine V_iconst (q := 29) hC dX7_girth_28 rfl ?_
      refine V_iload_n (k := 1) (q := 30) hC 1 rfl dX7_girth_29 rfl ?_
      refine V_imul (q := 31) hC dX7_girth_30 rfl ?_
      refine V_iadd (q := 32) hC dX7_girth_31 rfl ?_
      refine V_iconst (q := 33) hC dX7_girth_32 rfl ?_
      refine V_iadd (q := 34) hC dX7_girth_33 rfl ?_
      obtain ⟨g10, hf⟩ := gd_some hf
      refine V_iald (n := 48) (q := 35) hC iD32 rfl g10 (Rg_wr _) dX7_girth_34 rfl ?_
      exact V_iret hC hr hlk (re_1 hf) (re_2 hf) (hs9 _ _ _) hs9 dX7_girth_35
    · replace hf := (if_pos c4).symm.trans hf
      refine V_ldc (q := 17) (n := (-1000001)) hC (by decide) kX7_girth_c61 dX7_girth_15 rfl ?_
      exact V_iret hC hr hlk (re_1 hf) (re_2 hf) (Rg_c rfl) hs dX7_girth_17
/-! X7_left -/
theorem kX7_left_f41 : Cond.fieldLink RX7 41 "BarkNamesModel" "tried" "[I" ∈ wsX7_left := by decide +kernel
theorem uX7_left_7 : ∀ w ∈ u_ws RX7 TX7 22, w ∈ wsX7_left := by decide +kernel
theorem kX7_left_c47 : Cond.constant RX7 47 (-1000000) ∈ wsX7_left := by decide +kernel
theorem kX7_left_c61 : Cond.constant RX7 61 (-1000001) ∈ wsX7_left := by decide +kernel
theorem kX7_left_c178 : Cond.constant RX7 178 (-1000002) ∈ wsX7_left := by decide +kernel
abbrev rmX7_left : Room := { frames := 4, cells := 0, slots := 0, locals := 94 }
set_option maxHeartbeats 4000000 in
set_option maxRecDepth 100000 in
theorem sX7_left (l : Launch) {G : GT} (hG : GI G) {v1 : Int} (h1 : Rg v1) {σ : Hp} (hs : RgS σ) {r0 : Int × Hp} (hf : fX7_left σ v1 = some r0) : Cti l G yX7_left wsX7_left rmX7_left [rf G 7 0, iv v1] σ r0.1 r0.2 := by
  unfold fX7_left at hf
  refine Cti_start (lv := [(0, rf G 7 0), (1, iv v1)]) (ret := (some .int)) (by decide +kernel) rfl hG (Nat.le_of_ble_eq_true rfl) rfl (fun p e s m args below meth c hC hr hlk => ?_)
  refine V_aload_n (k := 0) (q := 1) hC 0 rfl dX7_left_0 rfl ?_
  refine V_cvi (st := []) (q := 4) hC (sX7_isWood l hG  hs) (cwV 0 hC.2.2.2.2.1 gX7_left_X7_isWood rfl rfl rfl (by decide +kernel) ⟨Nat.le_of_ble_eq_true rfl, Nat.le_of_ble_eq_true rfl⟩) ⟨_, rfl, rfl⟩ iD7 (fun _ => ⟨_, rfl⟩) rfl rfl (Nat.le_of_ble_eq_true rfl) dX7_left_1 rfl ⟨Nat.zero_le _, Nat.zero_le _⟩ (fun hr1 _ => ?_)
  refine V_if_ne (tgt := 10) (q := 7) hC hr1 dX7_left_4 (by decide) rfl (fun c2 => ?_) (fun c2 => ?_)
  · replace hf := (if_neg c2).symm.trans hf
    refine V_iload_n (k := 1) (q := 11) hC 1 rfl dX7_left_10 rfl ?_
    refine V_csi (st := []) (q := 14) hC (sX7_isFar l hG h1 hs) (va_cwS 1 hC.2.2.2.2.1 gX7_left_X7_isFar rfl rfl rfl (by decide +kernel) ⟨Nat.le_of_ble_eq_true rfl, Nat.le_of_ble_eq_true rfl⟩) rfl rfl (Nat.le_of_ble_eq_true rfl) dX7_left_11 rfl ⟨Nat.zero_le _, Nat.zero_le _⟩ (fun hr3 _ => ?_)
    refine V_if_ne (tgt := 20) (q := 17) hC hr3 dX7_left_14 (by decide) rfl (fun c4 => ?_) (fun c4 => ?_)
    · replace hf := (if_neg c4).symm.trans hf
      refine V_aload_n (k := 0) (q := 21) hC 0 rfl dX7_left_20 rfl ?_
      refine V_iload_n (k := 1) (q := 22) hC 1 rfl dX7_left_21 rfl ?_
      obtain ⟨r5, σ6, hc7, hf⟩ := cl_some hf
      refine V_cvv (st := []) (q := 25) (σ0 := σ6) hC (sX7_tries l hG h1 hs hc7) (cwV 1 hC.2.2.2.2.1 gX7_left_X7_tries rfl rfl rfl (by decide +kernel) ⟨Nat.le_of_ble_eq_true rfl, Nat.le_of_ble_eq_true rfl⟩) ⟨_, rfl, rfl⟩ iD7 (fun _ => ⟨_, rfl⟩) rfl rfl (Nat.le_of_ble_eq_true rfl) dX7_left_22 rfl ⟨Nat.zero_le _, Nat.zero_le _⟩ (fun hs9 => ?_)
      refine V_aload_n (k := 0) (q := 26) hC 0 rfl dX7_left_25 rfl ?_
      refine V_getf (T := TX7) (k := 19) (q := 29) hC uX7_left_7 rfl iD7 rfl (by decide) kX7_left_f41 rfl dX7_left_26 rfl ?_
      refine V_ldc (q := 31) (n := (-1000000)) hC (by decide) kX7_left_c47 dX7_left_29 rfl ?_
      obtain ⟨r10, σ11, hc12, hf⟩ := cl_some hf
      refine V_csi (st := []) (q := 34) (x0 := r10) (σ0 := σ11) hC (sX7_legible l hG iD32 (Rg_c rfl) hs9 hc12) (va_cwS 2 hC.2.2.2.2.1 gX7_left_X7_legible rfl rfl rfl (by decide +kernel) ⟨Nat.le_of_ble_eq_true rfl, Nat.le_of_ble_eq_true rfl⟩) rfl rfl (Nat.le_of_ble_eq_true rfl) dX7_left_31 rfl ⟨Nat.zero_le _, Nat.zero_le _⟩ (fun hr13 hs14 => ?_)
      exact V_iret hC hr hlk (re_1 hf) (re_2 hf) hr13 hs14 dX7_left_34
    · replace hf := (if_pos c4).symm.trans hf
      refine V_ldc (q := 19) (n := (-1000001)) hC (by decide) kX7_left_c61 dX7_left_17 rfl ?_
      exact V_iret hC hr hlk (re_1 hf) (re_2 hf) (Rg_c rfl) hs dX7_left_19
  · replace hf := (if_pos c2).symm.trans hf
    refine V_ldc (q := 9) (n := (-1000002)) hC (by decide) kX7_left_c178 dX7_left_7 rfl ?_
    exact V_iret hC hr hlk (re_1 hf) (re_2 hf) (Rg_c rfl) hs dX7_left_9
/-! X7_free -/
theorem kX7_free_c61 : Cond.constant RX7 61 (-1000001) ∈ wsX7_free := by decide +kernel
theorem kX7_free_c47 : Cond.constant RX7 47 (-1000000) ∈ wsX7_free := by decide +kernel
theorem kX7_free_f41 : Cond.fieldLink RX7 41 "BarkNamesModel" "tried" "[I" ∈ wsX7_free := by decide +kernel
theorem uX7_free_7 : ∀ w ∈ u_ws RX7 TX7 22, w ∈ wsX7_free := by decide +kernel
abbrev rmX7_free : Room := { frames := 4, cells := 0, slots := 0, locals := 94 }
set_option maxHeartbeats 4000000 in
set_option maxRecDepth 100000 in
theorem tlX7_free_19 {p : Program} {l : Launch} {e : Env} {s : State} {m : MethodId} {args : Array Value} {below : List Frame} {meth : Method} {c : Code} {G : GT} (hG : GI G) (hC : CX p s m args c cX7_free 4 RX7 wsX7_free G (AA G)) (hr : meth.sig.returnType = (some .int)) (hlk : meth.locks = false) {r0 : Int × Hp} : ∀ n : Nat, (∀ {σ : Hp} (hs : RgS σ) {v1 : Int} {v2 : Int} {v3 : Int} (h1 : Rg v1) (h2 : Rg v2) (h3 : Rg v3) (hf : lX7_free_19 n σ v1 v2 v3 = some r0), VV p l e (headSpec wsX7_free rmX7_free).room s m args below meth c (MQ below (QI G r0.1 r0.2) args s 0 0 (AA G)) G (AA G) 0 0 4 σ 19 [(0, rf G 7 0), (1, iv v1), (2, iv v2), (3, iv v3)] []) := by
  intro n
  induction n with
  | zero =>
    exact by intro σ hs v1 v2 v3 h1 h2 h3 hf; exact absurd (show (none : Option (Int × Hp)) = some r0 from hf) (fun z => by cases z)
  | succ n ih =>
    intro σ hs v1 v2 v3 h1 h2 h3 hf
    replace hf := (lX7_free_19_e0 n σ v1 v2 v3).symm.trans hf
    refine V_iload_n (k := 3) (q := 20) hC 3 rfl dX7_free_19 rfl ?_
    refine V_bipush (q := 22) hC (by decide) dX7_free_20 rfl ?_
    refine V_icmp_ge (tgt := 53) (q := 25) hC h3 (Rg_c rfl) dX7_free_22 (by decide) rfl (fun c12 => ?_) (fun c12 => ?_)
    · replace hf := (if_pos c12).symm.trans hf
      refine V_ldc (q := 55) (n := (-1000000)) hC (by decide) kX7_free_c47 dX7_free_53 rfl ?_
      exact V_iret hC hr hlk (re_1 hf) (re_2 hf) (Rg_c rfl) hs dX7_free_55
    · replace hf := (if_neg c12).symm.trans hf
      refine V_aload_n (k := 0) (q := 26) hC 0 rfl dX7_free_25 rfl ?_
      refine V_getf (T := TX7) (k := 19) (q := 29) hC uX7_free_7 rfl iD7 rfl (by decide) kX7_free_f41 rfl dX7_free_26 rfl ?_
      refine V_iload_n (k := 1) (q := 30) hC 1 rfl dX7_free_29 rfl ?_
      refine V_iload_n (k := 2) (q := 31) hC 2 rfl dX7_free_30 rfl ?_
      refine V_iconst (q := 32) hC dX7_free_31 rfl ?_
      obtain ⟨r13, σ14, hc15, hf⟩ := cl_some hf
      refine V_csi (st := []) (q := 35) (x0 := r13) (σ0 := σ14) hC (sX7_areTogether l hG iD32 h1 h2 (Rg_c rfl) hs hc15) (va_cwS 4 hC.2.2.2.2.1 gX7_free_X7_areTogether rfl rfl rfl (by decide +kernel) ⟨Nat.le_of_ble_eq_true rfl, Nat.le_of_ble_eq_true rfl⟩) rfl rfl (Nat.le_of_ble_eq_true rfl) dX7_free_32 rfl ⟨Nat.zero_le _, Nat.zero_le _⟩ (fun hr16 hs17 => ?_)
      refine V_if_ne (tgt := 40) (q := 38) hC hr16 dX7_free_35 (by decide) rfl (fun c18 => ?_) (fun c18 => ?_)
      · replace hf := (if_neg c18).symm.trans hf
        refine V_aload_n (k := 0) (q := 41) hC 0 rfl dX7_free_40 rfl ?_
        refine V_getf (T := TX7) (k := 19) (q := 44) hC uX7_free_7 rfl iD7 rfl (by decide) kX7_free_f41 rfl dX7_free_41 rfl ?_
        obtain ⟨r19, σ20, hc21, hf⟩ := cl_some hf
        refine V_csv (st := []) (q := 47) (σ0 := σ20) hC (sX7_passes l hG iD32 hs17 hc21) (va_cwS 1 hC.2.2.2.2.1 gX7_free_X7_passes rfl rfl rfl (by decide +kernel) ⟨Nat.le_of_ble_eq_true rfl, Nat.le_of_ble_eq_true rfl⟩) rfl rfl (Nat.le_of_ble_eq_true rfl) dX7_free_44 rfl ⟨Nat.zero_le _, Nat.zero_le _⟩ (fun hs23 => ?_)
        refine V_iinc (i := 3) (lv' := [(0, rf G 7 0), (1, iv v1), (2, iv v2), (3, iv (wr (v3 + 1)))]) (q := 50) hC 3 rfl [1, 2, 3, 0] (by decide) rfl dX7_free_47 rfl ?_
        refine V_goto (tgt := 19) hC dX7_free_50 (by decide) ?_
        refine V_lsub [0, 1, 2, 3] rfl ?_
        exact ih hs23 h1 h2 (Rg_wr _) hf
      · replace hf := (if_pos c18).symm.trans hf
        refine V_iload_n (k := 3) (q := 39) hC 3 rfl dX7_free_38 rfl ?_
        exact V_iret hC hr hlk (re_1 hf) (re_2 hf) h3 hs17 dX7_free_39
set_option maxHeartbeats 4000000 in
set_option maxRecDepth 100000 in
theorem sX7_free (l : Launch) {G : GT} (hG : GI G) {v1 : Int} {v2 : Int} (h1 : Rg v1) (h2 : Rg v2) {σ : Hp} (hs : RgS σ) {r0 : Int × Hp} (hf : fX7_free σ v1 v2 = some r0) : Cti l G yX7_free wsX7_free rmX7_free [rf G 7 0, iv v1, iv v2] σ r0.1 r0.2 := by
  unfold fX7_free at hf
  refine Cti_start (lv := [(0, rf G 7 0), (1, iv v1), (2, iv v2)]) (ret := (some .int)) (by decide +kernel) rfl hG (Nat.le_of_ble_eq_true rfl) rfl (fun p e s m args below meth c hC hr hlk => ?_)
  refine V_aload_n (k := 0) (q := 1) hC 0 rfl dX7_free_0 rfl ?_
  refine V_iload_n (k := 1) (q := 2) hC 1 rfl dX7_free_1 rfl ?_
  refine V_iload_n (k := 2) (q := 3) hC 2 rfl dX7_free_2 rfl ?_
  obtain ⟨r1, σ2, hc3, hf⟩ := cl_some hf
  refine V_cvi (st := []) (q := 6) (x0 := r1) (σ0 := σ2) hC (sX7_areOfOne l hG h1 h2 hs hc3) (cwV 2 hC.2.2.2.2.1 gX7_free_X7_areOfOne rfl rfl rfl (by decide +kernel) ⟨Nat.le_of_ble_eq_true rfl, Nat.le_of_ble_eq_true rfl⟩) ⟨_, rfl, rfl⟩ iD7 (fun _ => ⟨_, rfl⟩) rfl rfl (Nat.le_of_ble_eq_true rfl) dX7_free_3 rfl ⟨Nat.zero_le _, Nat.zero_le _⟩ (fun hr4 hs5 => ?_)
  refine V_if_ne (tgt := 12) (q := 9) hC hr4 dX7_free_6 (by decide) rfl (fun c6 => ?_) (fun c6 => ?_)
  · replace hf := (if_neg c6).symm.trans hf
    refine V_aload_n (k := 0) (q := 13) hC 0 rfl dX7_free_12 rfl ?_
    refine V_iconst (q := 14) hC dX7_free_13 rfl ?_
    obtain ⟨r7, σ8, hc9, hf⟩ := cl_some hf
    refine V_cvv (st := []) (q := 17) (σ0 := σ8) hC (sX7_tries l hG (Rg_c rfl) hs5 hc9) (cwV 1 hC.2.2.2.2.1 gX7_free_X7_tries rfl rfl rfl (by decide +kernel) ⟨Nat.le_of_ble_eq_true rfl, Nat.le_of_ble_eq_true rfl⟩) ⟨_, rfl, rfl⟩ iD7 (fun _ => ⟨_, rfl⟩) rfl rfl (Nat.le_of_ble_eq_true rfl) dX7_free_14 rfl ⟨Nat.zero_le _, Nat.zero_le _⟩ (fun hs11 => ?_)
    refine V_iconst (q := 18) hC dX7_free_17 rfl ?_
    refine V_istore_n (k := 3) (i := 3) (lv' := [(0, rf G 7 0), (1, iv v1), (2, iv v2), (3, iv 0)]) (q := 19) hC [1, 2, 3, 0] rfl (by decide) rfl dX7_free_18 rfl ?_
    refine V_lsub [0, 1, 2, 3] rfl ?_
    exact (tlX7_free_19 hG hC hr hlk FU) hs11 h1 h2 (Rg_c rfl) hf
  · replace hf := (if_pos c6).symm.trans hf
    refine V_ldc (q := 11) (n := (-1000001)) hC (by decide) kX7_free_c61 dX7_free_9 rfl ?_
    exact V_iret hC hr hlk (re_1 hf) (re_2 hf) (Rg_c rfl) hs5 dX7_free_11
