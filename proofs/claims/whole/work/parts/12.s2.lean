/-! X6_goesSo -/
theorem kX6_goesSo_f29 : Cond.fieldLink RX6 29 "BarkNames" "tried" "LBarkNames$Wood;" ∈ wsX6_goesSo := by decide +kernel
theorem uX6_goesSo_6 : ∀ w ∈ u_ws RX6 TX6 10, w ∈ wsX6_goesSo := by decide +kernel
theorem kX6_goesSo_f78 : Cond.fieldLink RX6 78 "BarkNames$Row" "items" "[I" ∈ wsX6_goesSo := by decide +kernel
theorem uX6_goesSo_3 : ∀ w ∈ u_ws RX3 TX3 4, w ∈ wsX6_goesSo := by decide +kernel
abbrev rmX6_goesSo : Room := { frames := 3, cells := 0, slots := 0, locals := 66 }
set_option maxHeartbeats 4000000 in
set_option maxRecDepth 100000 in
theorem tlX6_goesSo_3 {p : Program} {l : Launch} {e : Env} {s : State} {m : MethodId} {args : Array Value} {below : List Frame} {meth : Method} {c : Code} {G : GT} (hG : GI G) (hC : CX p s m args c cX6_goesSo 7 RX6 wsX6_goesSo G (AA G)) (hr : meth.sig.returnType = (some .boolean)) (hlk : meth.locks = false) {s1 : Nat} {j1 : Nat} {j3 : Nat} (hi1 : InD s1 j1) (hj3 : j3 < 8) {r0 : Int × Hp} : ∀ n : Nat, (∀ {σ : Hp} (hs : RgS σ) {v2 : Int} {v4 : Int} {v5 : Int} {v6 : Int} (h2 : Rg v2) (h4 : Rg v4) (h5 : Rg v5) (h6 : Rg v6) (hf : lX6_goesSo_3 n σ s1 j1 j3 v2 v4 v5 v6 = some r0), VV p l e (headSpec wsX6_goesSo rmX6_goesSo).room s m args below meth c (MQ below (QI G r0.1 r0.2) args s 0 0 (AA G)) G (AA G) 0 0 7 σ 3 [(0, rf G 6 0), (1, rf G s1 j1), (2, iv v2), (3, rf G 3 j3), (4, iv v4), (5, iv v5), (6, iv v6)] []) := by
  intro n
  induction n with
  | zero =>
    exact by intro σ hs v2 v4 v5 v6 h2 h4 h5 h6 hf; exact absurd (show (none : Option (Int × Hp)) = some r0 from hf) (fun z => by cases z)
  | succ n ih =>
    intro σ hs v2 v4 v5 v6 h2 h4 h5 h6 hf
    replace hf := (lX6_goesSo_3_e0 n σ s1 j1 j3 v2 v4 v5 v6).symm.trans hf
    refine V_iload (k := 6) (q := 5) hC 6 rfl dX6_goesSo_3 rfl ?_
    refine V_iload (k := 5) (q := 7) hC 5 rfl dX6_goesSo_5 rfl ?_
    refine V_icmp_ge (tgt := 41) (q := 10) hC h6 h5 dX6_goesSo_7 (by decide) rfl (fun c1 => ?_) (fun c1 => ?_)
    · replace hf := (if_pos c1).symm.trans hf
      refine V_iconst (q := 42) hC dX6_goesSo_41 rfl ?_
      exact V_zret hC hr hlk (Or.inr rfl) (re_1 hf) (re_2 hf) hs dX6_goesSo_42
    · replace hf := (if_neg c1).symm.trans hf
      refine V_aload_n (k := 0) (q := 11) hC 0 rfl dX6_goesSo_10 rfl ?_
      refine V_getf (T := TX6) (k := 3) (q := 14) hC uX6_goesSo_6 rfl iD6 rfl (by decide) kX6_goesSo_f29 rfl dX6_goesSo_11 rfl ?_
      obtain ⟨r2, σ3, hc4, hf⟩ := cl_some hf
      refine V_cvv (st := []) (q := 17) (σ0 := σ3) hC (sX5_passYear l hG (by decide) hs hc4) (cwV 0 hC.2.2.2.2.1 gX6_goesSo_X5_passYear rfl rfl rfl (by decide +kernel) ⟨Nat.le_of_ble_eq_true rfl, Nat.le_of_ble_eq_true rfl⟩) ⟨_, rfl, rfl⟩ (iM5 (by decide)) (fun _ => ⟨_, rfl⟩) rfl rfl (Nat.le_of_ble_eq_true rfl) dX6_goesSo_14 rfl ⟨Nat.zero_le _, Nat.zero_le _⟩ (fun hs6 => ?_)
      refine V_aload_n (k := 1) (q := 18) hC 1 rfl dX6_goesSo_17 rfl ?_
      refine V_iload_n (k := 2) (q := 19) hC 2 rfl dX6_goesSo_18 rfl ?_
      obtain ⟨g7, hf⟩ := gd_some hf
      refine V_iald (q := 20) hC hi1 rfl g7 h2 dX6_goesSo_19 rfl ?_
      refine V_aload_n (k := 3) (q := 21) hC 3 rfl dX6_goesSo_20 rfl ?_
      refine V_getf (T := TX3) (k := 0) (q := 24) hC uX6_goesSo_3 rfl (iM3 hj3) rfl (by decide) kX6_goesSo_f78 rfl dX6_goesSo_21 rfl ?_
      refine V_iload (k := 4) (q := 26) hC 4 rfl dX6_goesSo_24 rfl ?_
      refine V_iload (k := 6) (q := 28) hC 6 rfl dX6_goesSo_26 rfl ?_
      refine V_iadd (q := 29) hC dX6_goesSo_28 rfl ?_
      obtain ⟨g8, hf⟩ := gd_some hf
      refine V_iald (n := 40) (q := 30) hC (iM11 hj3) rfl g8 (Rg_wr _) dX6_goesSo_29 rfl ?_
      refine V_icmp_eq (tgt := 35) (q := 33) hC (hs6 _ _ _) (hs6 _ _ _) dX6_goesSo_30 (by decide) rfl (fun c9 => ?_) (fun c9 => ?_)
      · replace hf := (if_pos c9).symm.trans hf
        refine V_iinc (i := 6) (lv' := [(0, rf G 6 0), (1, rf G s1 j1), (2, iv v2), (3, rf G 3 j3), (4, iv v4), (5, iv v5), (6, iv (wr (v6 + 1)))]) (q := 38) hC 6 rfl [1, 2, 3, 4, 5, 6, 0] (by decide) rfl dX6_goesSo_35 rfl ?_
        refine V_goto (tgt := 3) hC dX6_goesSo_38 (by decide) ?_
        refine V_lsub [0, 1, 2, 3, 4, 5, 6] rfl ?_
        exact ih hs6 h2 h4 h5 (Rg_wr _) hf
      · replace hf := (if_neg c9).symm.trans hf
        refine V_iconst (q := 34) hC dX6_goesSo_33 rfl ?_
        exact V_zret hC hr hlk (Or.inl rfl) (re_1 hf) (re_2 hf) hs6 dX6_goesSo_34
set_option maxHeartbeats 4000000 in
set_option maxRecDepth 100000 in
theorem sX6_goesSo (l : Launch) {G : GT} (hG : GI G) {s1 : Nat} {j1 : Nat} {v2 : Int} {j3 : Nat} {v4 : Int} {v5 : Int} (hi1 : InD s1 j1) (h2 : Rg v2) (hj3 : j3 < 8) (h4 : Rg v4) (h5 : Rg v5) {σ : Hp} (hs : RgS σ) {r0 : Int × Hp} (hf : fX6_goesSo σ s1 j1 v2 j3 v4 v5 = some r0) : Cti l G yX6_goesSo wsX6_goesSo rmX6_goesSo [rf G 6 0, rf G s1 j1, iv v2, rf G 3 j3, iv v4, iv v5] σ r0.1 r0.2 := by
  unfold fX6_goesSo at hf
  refine Cti_start (lv := [(0, rf G 6 0), (1, rf G s1 j1), (2, iv v2), (3, rf G 3 j3), (4, iv v4), (5, iv v5)]) (ret := (some .boolean)) (by decide +kernel) rfl hG (Nat.le_of_ble_eq_true rfl) rfl (fun p e s m args below meth c hC hr hlk => ?_)
  refine V_iconst (q := 1) hC dX6_goesSo_0 rfl ?_
  refine V_istore (i := 6) (lv' := [(0, rf G 6 0), (1, rf G s1 j1), (2, iv v2), (3, rf G 3 j3), (4, iv v4), (5, iv v5), (6, iv 0)]) (q := 3) hC [1, 2, 3, 4, 5, 6, 0] (by decide) rfl dX6_goesSo_1 rfl ?_
  refine V_lsub [0, 1, 2, 3, 4, 5, 6] rfl ?_
  exact (tlX6_goesSo_3 hG hC hr hlk hi1 hj3 FU) hs h2 h4 h5 (Rg_c rfl) hf
/-! X6_gaps -/
theorem kX6_gaps_f25 : Cond.fieldLink RX6 25 "BarkNames" "now" "LBarkNames$Wood;" ∈ wsX6_gaps := by decide +kernel
theorem uX6_gaps_6 : ∀ w ∈ u_ws RX6 TX6 10, w ∈ wsX6_gaps := by decide +kernel
theorem kX6_gaps_c62 : Cond.constant RX6 62 (-1000001) ∈ wsX6_gaps := by decide +kernel
theorem kX6_gaps_f11 : Cond.fieldLink RX6 11 "BarkNames" "rows" "[LBarkNames$Row;" ∈ wsX6_gaps := by decide +kernel
theorem kX6_gaps_f29 : Cond.fieldLink RX6 29 "BarkNames" "tried" "LBarkNames$Wood;" ∈ wsX6_gaps := by decide +kernel
theorem kX6_gaps_f178 : Cond.fieldLink RX6 178 "BarkNames$Wood" "depthOf" "[I" ∈ wsX6_gaps := by decide +kernel
theorem uX6_gaps_5 : ∀ w ∈ u_ws RX5 TX5 12, w ∈ wsX6_gaps := by decide +kernel
abbrev rmX6_gaps : Room := { frames := 4, cells := 0, slots := 0, locals := 92 }
set_option maxHeartbeats 4000000 in
set_option maxRecDepth 100000 in
theorem tlX6_gaps_61 {p : Program} {l : Launch} {e : Env} {s : State} {m : MethodId} {args : Array Value} {below : List Frame} {meth : Method} {c : Code} {G : GT} (hG : GI G) (hC : CX p s m args c cX6_gaps 8 RX6 wsX6_gaps G (AA G)) (hr : meth.sig.returnType = (some .int)) (hlk : meth.locks = false) {r0 : Int × Hp} : ∀ n : Nat, (∀ {σ : Hp} (hs : RgS σ) {v1 : Int} {v2 : Int} {v3 : Int} {v4 : Int} {v6 : Int} {v7 : Int} (h1 : Rg v1) (h2 : Rg v2) (h3 : Rg v3) (h4 : Rg v4) (h6 : Rg v6) (h7 : Rg v7) (hf : lX6_gaps_61 n σ v1 v2 v3 v4 v6 v7 = some r0), VV p l e (headSpec wsX6_gaps rmX6_gaps).room s m args below meth c (MQ below (QI G r0.1 r0.2) args s 0 0 (AA G)) G (AA G) 0 0 8 σ 61 [(0, rf G 6 0), (1, iv v1), (2, iv v2), (3, iv v3), (4, iv v4), (6, iv v6), (7, iv v7)] []) := by
  intro n
  induction n with
  | zero =>
    exact by intro σ hs v1 v2 v3 v4 v6 v7 h1 h2 h3 h4 h6 h7 hf; exact absurd (show (none : Option (Int × Hp)) = some r0 from hf) (fun z => by cases z)
  | succ n ih =>
    intro σ hs v1 v2 v3 v4 v6 v7 h1 h2 h3 h4 h6 h7 hf
    replace hf := (lX6_gaps_61_e0 n σ v1 v2 v3 v4 v6 v7).symm.trans hf
    refine V_iload (k := 7) (q := 63) hC 6 rfl dX6_gaps_61 rfl ?_
    refine V_bipush (q := 65) hC (by decide) dX6_gaps_63 rfl ?_
    refine V_icmp_gt (tgt := 129) (q := 68) hC h7 (Rg_c rfl) dX6_gaps_65 (by decide) rfl (fun c16 => ?_) (fun c16 => ?_)
    · replace hf := (if_pos c16).symm.trans hf
      refine V_aload_n (k := 0) (q := 130) hC 0 rfl dX6_gaps_129 rfl ?_
      refine V_iload (k := 6) (q := 132) hC 5 rfl dX6_gaps_130 rfl ?_
      obtain ⟨r17, σ18, hc19, hf⟩ := cl_some hf
      refine V_cvi (st := []) (q := 135) (x0 := r17) (σ0 := σ18) hC (sX6_foundNothing l hG h6 hs hc19) (cwV 1 hC.2.2.2.2.1 gX6_gaps_X6_foundNothing rfl rfl rfl (by decide +kernel) ⟨Nat.le_of_ble_eq_true rfl, Nat.le_of_ble_eq_true rfl⟩) ⟨_, rfl, rfl⟩ iD6 (fun _ => ⟨_, rfl⟩) rfl rfl (Nat.le_of_ble_eq_true rfl) dX6_gaps_132 rfl ⟨Nat.zero_le _, Nat.zero_le _⟩ (fun hr20 hs21 => ?_)
      exact V_iret hC hr hlk (re_1 hf) (re_2 hf) hr20 hs21 dX6_gaps_135
    · replace hf := (if_neg c16).symm.trans hf
      refine V_aload_n (k := 0) (q := 69) hC 0 rfl dX6_gaps_68 rfl ?_
      refine V_getf (T := TX6) (k := 3) (q := 72) hC uX6_gaps_6 rfl iD6 rfl (by decide) kX6_gaps_f29 rfl dX6_gaps_69 rfl ?_
      refine V_aload_n (k := 0) (q := 73) hC 0 rfl dX6_gaps_72 rfl ?_
      refine V_getf (T := TX6) (k := 2) (q := 76) hC uX6_gaps_6 rfl iD6 rfl (by decide) kX6_gaps_f25 rfl dX6_gaps_73 rfl ?_
      obtain ⟨r22, σ23, hc24, hf⟩ := cl_some hf
      refine V_cvv (st := []) (q := 79) (σ0 := σ23) hC (sX5_become l hG (by decide) (by decide) hs hc24) (cwV 1 hC.2.2.2.2.1 gX6_gaps_X5_become rfl rfl rfl (by decide +kernel) ⟨Nat.le_of_ble_eq_true rfl, Nat.le_of_ble_eq_true rfl⟩) ⟨_, rfl, rfl⟩ (iM5 (by decide)) (fun _ => ⟨_, rfl⟩) rfl rfl (Nat.le_of_ble_eq_true rfl) dX6_gaps_76 rfl ⟨Nat.zero_le _, Nat.zero_le _⟩ (fun hs26 => ?_)
      refine V_aload_n (k := 0) (q := 80) hC 0 rfl dX6_gaps_79 rfl ?_
      refine V_getf (T := TX6) (k := 3) (q := 83) hC uX6_gaps_6 rfl iD6 rfl (by decide) kX6_gaps_f29 rfl dX6_gaps_80 rfl ?_
      refine V_getf (T := TX5) (k := 6) (q := 86) hC uX6_gaps_5 rfl (iM5 (by decide)) rfl (by decide) kX6_gaps_f178 rfl dX6_gaps_83 rfl ?_
      refine V_iload_n (k := 1) (q := 87) hC 1 rfl dX6_gaps_86 rfl ?_
      refine V_iload (k := 7) (q := 89) hC 6 rfl dX6_gaps_87 rfl ?_
      obtain ⟨g27, hf⟩ := gd_some hf
      obtain ⟨σ28, e29, hf⟩ := sq_ex hf
      have hs30 : RgS σ28 := by rw [e29]; exact RgS_hup hs26 h7
      refine V_iast (n := 8) (q := 90) hC (iM19 (by decide)) rfl g27 h1 e29 dX6_gaps_89 rfl ?_
      refine V_aload_n (k := 0) (q := 91) hC 0 rfl dX6_gaps_90 rfl ?_
      refine V_aload_n (k := 0) (q := 92) hC 0 rfl dX6_gaps_91 rfl ?_
      refine V_getf (T := TX6) (k := 3) (q := 95) hC uX6_gaps_6 rfl iD6 rfl (by decide) kX6_gaps_f29 rfl dX6_gaps_92 rfl ?_
      refine V_getf (T := TX5) (k := 6) (q := 98) hC uX6_gaps_5 rfl (iM5 (by decide)) rfl (by decide) kX6_gaps_f178 rfl dX6_gaps_95 rfl ?_
      refine V_iload_n (k := 1) (q := 99) hC 1 rfl dX6_gaps_98 rfl ?_
      refine V_aload_n (k := 0) (q := 100) hC 0 rfl dX6_gaps_99 rfl ?_
      refine V_getf (T := TX6) (k := 0) (q := 103) hC uX6_gaps_6 rfl iD6 rfl (by decide) kX6_gaps_f11 rfl dX6_gaps_100 rfl ?_
      refine V_iload_n (k := 2) (q := 104) hC 2 rfl dX6_gaps_103 rfl ?_
      obtain ⟨g31, hf⟩ := gd_some hf
      refine V_aald20 (q := 105) hC g31 h2 dX6_gaps_104 rfl ?_
      have hj32 : v2.toNat < 8 := by omega
      refine V_iload_n (k := 3) (q := 106) hC 3 rfl dX6_gaps_105 rfl ?_
      refine V_iload (k := 4) (q := 108) hC 4 rfl dX6_gaps_106 rfl ?_
      obtain ⟨r33, σ34, hc35, hf⟩ := cl_some hf
      refine V_cvi (st := []) (q := 111) (x0 := r33) (σ0 := σ34) hC (sX6_goesSo l hG (iM19 (by decide)) h1 hj32 h3 h4 hs30 hc35) (cwV 5 hC.2.2.2.2.1 gX6_gaps_X6_goesSo rfl rfl rfl (by decide +kernel) ⟨Nat.le_of_ble_eq_true rfl, Nat.le_of_ble_eq_true rfl⟩) ⟨_, rfl, rfl⟩ iD6 (fun _ => ⟨_, rfl⟩) rfl rfl (Nat.le_of_ble_eq_true rfl) dX6_gaps_108 rfl ⟨Nat.zero_le _, Nat.zero_le _⟩ (fun hr36 hs37 => ?_)
      refine V_if_eq (tgt := 123) (q := 114) hC hr36 dX6_gaps_111 (by decide) rfl (fun c38 => ?_) (fun c38 => ?_)
      · replace hf := (if_pos c38).symm.trans hf
        refine V_iinc (i := 7) (lv' := [(0, rf G 6 0), (1, iv v1), (2, iv v2), (3, iv v3), (4, iv v4), (6, iv v6), (7, iv (wr (v7 + 1)))]) (q := 126) hC 6 rfl [1, 2, 3, 4, 5, 6, 0] (by decide) rfl dX6_gaps_123 rfl ?_
        refine V_goto (tgt := 61) hC dX6_gaps_126 (by decide) ?_
        refine V_lsub [0, 1, 2, 3, 4, 5, 6] rfl ?_
        exact ih hs37 h1 h2 h3 h4 h6 (Rg_wr _) hf
      · replace hf := (if_neg c38).symm.trans hf
        refine V_iload (k := 6) (q := 116) hC 5 rfl dX6_gaps_114 rfl ?_
        refine V_iconst (q := 117) hC dX6_gaps_116 rfl ?_
        refine V_iload (k := 7) (q := 119) hC 6 rfl dX6_gaps_117 rfl ?_
        refine V_ishl (q := 120) hC dX6_gaps_119 rfl ?_
        refine V_ior (q := 121) hC dX6_gaps_120 rfl ?_
        refine V_istore (i := 6) (lv' := [(0, rf G 6 0), (1, iv v1), (2, iv v2), (3, iv v3), (4, iv v4), (6, iv (qor v6 (qshl 1 v7))), (7, iv v7)]) (q := 123) hC [1, 2, 3, 4, 5, 0, 6] (by decide) rfl dX6_gaps_121 rfl ?_
        refine V_iinc (i := 7) (lv' := [(0, rf G 6 0), (1, iv v1), (2, iv v2), (3, iv v3), (4, iv v4), (6, iv (qor v6 (qshl 1 v7))), (7, iv (wr (v7 + 1)))]) (q := 126) hC 6 rfl [1, 2, 3, 4, 5, 6, 0] (by decide) rfl dX6_gaps_123 rfl ?_
        refine V_goto (tgt := 61) hC dX6_gaps_126 (by decide) ?_
        refine V_lsub [0, 1, 2, 3, 4, 5, 6] rfl ?_
        exact ih hs37 h1 h2 h3 h4 (Rg_qor _ _) (Rg_wr _) hf
set_option maxHeartbeats 4000000 in
set_option maxRecDepth 100000 in
theorem sX6_gaps (l : Launch) {G : GT} (hG : GI G) {v1 : Int} {v2 : Int} {v3 : Int} {v4 : Int} (h1 : Rg v1) (h2 : Rg v2) (h3 : Rg v3) (h4 : Rg v4) {σ : Hp} (hs : RgS σ) {r0 : Int × Hp} (hf : fX6_gaps σ v1 v2 v3 v4 = some r0) : Cti l G yX6_gaps wsX6_gaps rmX6_gaps [rf G 6 0, iv v1, iv v2, iv v3, iv v4] σ r0.1 r0.2 := by
  unfold fX6_gaps at hf
  refine Cti_start (lv := [(0, rf G 6 0), (1, iv v1), (2, iv v2), (3, iv v3), (4, iv v4)]) (ret := (some .int)) (by decide +kernel) rfl hG (Nat.le_of_ble_eq_true rfl) rfl (fun p e s m args below meth c hC hr hlk => ?_)
  refine V_aload_n (k := 0) (q := 1) hC 0 rfl dX6_gaps_0 rfl ?_
  refine V_getf (T := TX6) (k := 2) (q := 4) hC uX6_gaps_6 rfl iD6 rfl (by decide) kX6_gaps_f25 rfl dX6_gaps_1 rfl ?_
  refine V_iload_n (k := 1) (q := 5) hC 1 rfl dX6_gaps_4 rfl ?_
  refine V_cvi (st := []) (q := 8) hC (sX5_hasCut l hG (by decide) h1 hs) (cwV 1 hC.2.2.2.2.1 gX6_gaps_X5_hasCut rfl rfl rfl (by decide +kernel) ⟨Nat.le_of_ble_eq_true rfl, Nat.le_of_ble_eq_true rfl⟩) ⟨_, rfl, rfl⟩ (iM5 (by decide)) (fun _ => ⟨_, rfl⟩) rfl rfl (Nat.le_of_ble_eq_true rfl) dX6_gaps_5 rfl ⟨Nat.zero_le _, Nat.zero_le _⟩ (fun hr1 _ => ?_)
  refine V_if_eq (tgt := 26) (q := 11) hC hr1 dX6_gaps_8 (by decide) rfl (fun c2 => ?_) (fun c2 => ?_)
  · replace hf := (if_pos c2).symm.trans hf
    refine V_ldc (q := 28) (n := (-1000001)) hC (by decide) kX6_gaps_c62 dX6_gaps_26 rfl ?_
    exact V_iret hC hr hlk (re_1 hf) (re_2 hf) (Rg_c rfl) hs dX6_gaps_28
  · replace hf := (if_neg c2).symm.trans hf
    refine V_iload_n (k := 2) (q := 12) hC 2 rfl dX6_gaps_11 rfl ?_
    refine V_csi (st := []) (q := 15) hC (sX6_isRow l hG h2 hs) (va_cwS 1 hC.2.2.2.2.1 gX6_gaps_X6_isRow rfl rfl rfl (by decide +kernel) ⟨Nat.le_of_ble_eq_true rfl, Nat.le_of_ble_eq_true rfl⟩) rfl rfl (Nat.le_of_ble_eq_true rfl) dX6_gaps_12 rfl ⟨Nat.zero_le _, Nat.zero_le _⟩ (fun hr3 _ => ?_)
    refine V_if_eq (tgt := 26) (q := 18) hC hr3 dX6_gaps_15 (by decide) rfl (fun c4 => ?_) (fun c4 => ?_)
    · replace hf := (if_pos c4).symm.trans hf
      refine V_ldc (q := 28) (n := (-1000001)) hC (by decide) kX6_gaps_c62 dX6_gaps_26 rfl ?_
      exact V_iret hC hr hlk (re_1 hf) (re_2 hf) (Rg_c rfl) hs dX6_gaps_28
    · replace hf := (if_neg c4).symm.trans hf
      refine V_iload (k := 4) (q := 20) hC 4 rfl dX6_gaps_18 rfl ?_
      refine V_csi (st := []) (q := 23) hC (sX6_isTold l hG h4 hs) (va_cwS 1 hC.2.2.2.2.1 gX6_gaps_X6_isTold rfl rfl rfl (by decide +kernel) ⟨Nat.le_of_ble_eq_true rfl, Nat.le_of_ble_eq_true rfl⟩) rfl rfl (Nat.le_of_ble_eq_true rfl) dX6_gaps_20 rfl ⟨Nat.zero_le _, Nat.zero_le _⟩ (fun hr5 _ => ?_)
      refine V_if_ne (tgt := 29) (q := 26) hC hr5 dX6_gaps_23 (by decide) rfl (fun c6 => ?_) (fun c6 => ?_)
      · replace hf := (if_neg c6).symm.trans hf
        refine V_aload_n (k := 0) (q := 30) hC 0 rfl dX6_gaps_29 rfl ?_
        refine V_getf (T := TX6) (k := 0) (q := 33) hC uX6_gaps_6 rfl iD6 rfl (by decide) kX6_gaps_f11 rfl dX6_gaps_30 rfl ?_
        refine V_iload_n (k := 2) (q := 34) hC 2 rfl dX6_gaps_33 rfl ?_
        obtain ⟨g7, hf⟩ := gd_some hf
        refine V_aald20 (q := 35) hC g7 h2 dX6_gaps_34 rfl ?_
        have hj8 : v2.toNat < 8 := by omega
        refine V_iload_n (k := 3) (q := 36) hC 3 rfl dX6_gaps_35 rfl ?_
        refine V_iload (k := 4) (q := 38) hC 4 rfl dX6_gaps_36 rfl ?_
        refine V_csi (st := []) (q := 41) hC (sX6_findingIn l hG hj8 h3 h4 hs) (va_cwS 3 hC.2.2.2.2.1 gX6_gaps_X6_findingIn rfl rfl rfl (by decide +kernel) ⟨Nat.le_of_ble_eq_true rfl, Nat.le_of_ble_eq_true rfl⟩) rfl rfl (Nat.le_of_ble_eq_true rfl) dX6_gaps_38 rfl ⟨Nat.zero_le _, Nat.zero_le _⟩ (fun hr9 _ => ?_)
        refine V_istore (i := 5) (lv' := [(0, rf G 6 0), (1, iv v1), (2, iv v2), (3, iv v3), (4, iv v4), (5, iv (fX6_findingIn σ v2.toNat v3 v4))]) (q := 43) hC [1, 2, 3, 4, 5, 0] (by decide) rfl dX6_gaps_41 rfl ?_
        refine V_iload (k := 5) (q := 45) hC 5 rfl dX6_gaps_43 rfl ?_
        refine V_if_eq (tgt := 55) (q := 48) hC hr9 dX6_gaps_45 (by decide) rfl (fun c10 => ?_) (fun c10 => ?_)
        · replace hf := (if_pos c10).symm.trans hf
          refine V_iconst (q := 56) hC dX6_gaps_55 rfl ?_
          refine V_istore (i := 6) (lv' := [(0, rf G 6 0), (1, iv v1), (2, iv v2), (3, iv v3), (4, iv v4), (5, iv (fX6_findingIn σ v2.toNat v3 v4)), (6, iv 0)]) (q := 58) hC [1, 2, 3, 4, 5, 6, 0] (by decide) rfl dX6_gaps_56 rfl ?_
          refine V_iconst (q := 59) hC dX6_gaps_58 rfl ?_
          refine V_istore (i := 7) (lv' := [(0, rf G 6 0), (1, iv v1), (2, iv v2), (3, iv v3), (4, iv v4), (5, iv (fX6_findingIn σ v2.toNat v3 v4)), (6, iv 0), (7, iv 1)]) (q := 61) hC [1, 2, 3, 4, 5, 6, 7, 0] (by decide) rfl dX6_gaps_59 rfl ?_
          refine V_lsub [0, 1, 2, 3, 4, 6, 7] rfl ?_
          exact (tlX6_gaps_61 hG hC hr hlk FU) hs h1 h2 h3 h4 (Rg_c rfl) (Rg_c rfl) hf
        · replace hf := (if_neg c10).symm.trans hf
          refine V_aload_n (k := 0) (q := 49) hC 0 rfl dX6_gaps_48 rfl ?_
          refine V_iload (k := 5) (q := 51) hC 5 rfl dX6_gaps_49 rfl ?_
          obtain ⟨r11, σ12, hc13, hf⟩ := cl_some hf
          refine V_cvi (st := []) (q := 54) (x0 := r11) (σ0 := σ12) hC (sX6_found l hG hr9 hs hc13) (cwV 1 hC.2.2.2.2.1 gX6_gaps_X6_found rfl rfl rfl (by decide +kernel) ⟨Nat.le_of_ble_eq_true rfl, Nat.le_of_ble_eq_true rfl⟩) ⟨_, rfl, rfl⟩ iD6 (fun _ => ⟨_, rfl⟩) rfl rfl (Nat.le_of_ble_eq_true rfl) dX6_gaps_51 rfl ⟨Nat.zero_le _, Nat.zero_le _⟩ (fun hr14 hs15 => ?_)
          exact V_iret hC hr hlk (re_1 hf) (re_2 hf) hr14 hs15 dX6_gaps_54
      · replace hf := (if_pos c6).symm.trans hf
        refine V_ldc (q := 28) (n := (-1000001)) hC (by decide) kX6_gaps_c62 dX6_gaps_26 rfl ?_
        exact V_iret hC hr hlk (re_1 hf) (re_2 hf) (Rg_c rfl) hs dX6_gaps_28
/-! X6_kindsThatGoSo -/
theorem kX6_kindsThatGoSo_f29 : Cond.fieldLink RX6 29 "BarkNames" "tried" "LBarkNames$Wood;" ∈ wsX6_kindsThatGoSo := by decide +kernel
theorem uX6_kindsThatGoSo_6 : ∀ w ∈ u_ws RX6 TX6 10, w ∈ wsX6_kindsThatGoSo := by decide +kernel
theorem kX6_kindsThatGoSo_f25 : Cond.fieldLink RX6 25 "BarkNames" "now" "LBarkNames$Wood;" ∈ wsX6_kindsThatGoSo := by decide +kernel
theorem kX6_kindsThatGoSo_f286 : Cond.fieldLink RX6 286 "BarkNames$Wood" "kindOf" "[I" ∈ wsX6_kindsThatGoSo := by decide +kernel
theorem uX6_kindsThatGoSo_5 : ∀ w ∈ u_ws RX5 TX5 12, w ∈ wsX6_kindsThatGoSo := by decide +kernel
theorem kX6_kindsThatGoSo_f191 : Cond.fieldLink RX6 191 "BarkNames$Wood" "girthOf" "[I" ∈ wsX6_kindsThatGoSo := by decide +kernel
abbrev rmX6_kindsThatGoSo : Room := { frames := 4, cells := 0, slots := 0, locals := 92 }
set_option maxHeartbeats 4000000 in
set_option maxRecDepth 100000 in
theorem tlX6_kindsThatGoSo_6 {p : Program} {l : Launch} {e : Env} {s : State} {m : MethodId} {args : Array Value} {below : List Frame} {meth : Method} {c : Code} {G : GT} (hG : GI G) (hC : CX p s m args c cX6_kindsThatGoSo 7 RX6 wsX6_kindsThatGoSo G (AA G)) (hr : meth.sig.returnType = (some .int)) (hlk : meth.locks = false) {j2 : Nat} (hj2 : j2 < 8) {r0 : Int × Hp} : ∀ n : Nat, (∀ {σ : Hp} (hs : RgS σ) {v1 : Int} {v3 : Int} {v4 : Int} {v5 : Int} {v6 : Int} (h1 : Rg v1) (h3 : Rg v3) (h4 : Rg v4) (h5 : Rg v5) (h6 : Rg v6) (hf : lX6_kindsThatGoSo_6 n σ j2 v1 v3 v4 v5 v6 = some r0), VV p l e (headSpec wsX6_kindsThatGoSo rmX6_kindsThatGoSo).room s m args below meth c (MQ below (QI G r0.1 r0.2) args s 0 0 (AA G)) G (AA G) 0 0 7 σ 6 [(0, rf G 6 0), (1, iv v1), (2, rf G 3 j2), (3, iv v3), (4, iv v4), (5, iv v5), (6, iv v6)] []) := by
  intro n
  induction n with
  | zero =>
    exact by intro σ hs v1 v3 v4 v5 v6 h1 h3 h4 h5 h6 hf; exact absurd (show (none : Option (Int × Hp)) = some r0 from hf) (fun z => by cases z)
  | succ n ih =>
    intro σ hs v1 v3 v4 v5 v6 h1 h3 h4 h5 h6 hf
    replace hf := (lX6_kindsThatGoSo_6_e0 n σ j2 v1 v3 v4 v5 v6).symm.trans hf
    refine V_iload (k := 6) (q := 8) hC 6 rfl dX6_kindsThatGoSo_6 rfl ?_
    refine V_iconst (q := 9) hC dX6_kindsThatGoSo_8 rfl ?_
    refine V_icmp_gt (tgt := 68) (q := 12) hC h6 (Rg_c rfl) dX6_kindsThatGoSo_9 (by decide) rfl (fun c1 => ?_) (fun c1 => ?_)
    · replace hf := (if_pos c1).symm.trans hf
      refine V_iload (k := 5) (q := 70) hC 5 rfl dX6_kindsThatGoSo_68 rfl ?_
      exact V_iret hC hr hlk (re_1 hf) (re_2 hf) h5 hs dX6_kindsThatGoSo_70
    · replace hf := (if_neg c1).symm.trans hf
      refine V_aload_n (k := 0) (q := 13) hC 0 rfl dX6_kindsThatGoSo_12 rfl ?_
      refine V_getf (T := TX6) (k := 3) (q := 16) hC uX6_kindsThatGoSo_6 rfl iD6 rfl (by decide) kX6_kindsThatGoSo_f29 rfl dX6_kindsThatGoSo_13 rfl ?_
      refine V_aload_n (k := 0) (q := 17) hC 0 rfl dX6_kindsThatGoSo_16 rfl ?_
      refine V_getf (T := TX6) (k := 2) (q := 20) hC uX6_kindsThatGoSo_6 rfl iD6 rfl (by decide) kX6_kindsThatGoSo_f25 rfl dX6_kindsThatGoSo_17 rfl ?_
      obtain ⟨r2, σ3, hc4, hf⟩ := cl_some hf
      refine V_cvv (st := []) (q := 23) (σ0 := σ3) hC (sX5_become l hG (by decide) (by decide) hs hc4) (cwV 1 hC.2.2.2.2.1 gX6_kindsThatGoSo_X5_become rfl rfl rfl (by decide +kernel) ⟨Nat.le_of_ble_eq_true rfl, Nat.le_of_ble_eq_true rfl⟩) ⟨_, rfl, rfl⟩ (iM5 (by decide)) (fun _ => ⟨_, rfl⟩) rfl rfl (Nat.le_of_ble_eq_true rfl) dX6_kindsThatGoSo_20 rfl ⟨Nat.zero_le _, Nat.zero_le _⟩ (fun hs6 => ?_)
      refine V_aload_n (k := 0) (q := 24) hC 0 rfl dX6_kindsThatGoSo_23 rfl ?_
      refine V_getf (T := TX6) (k := 3) (q := 27) hC uX6_kindsThatGoSo_6 rfl iD6 rfl (by decide) kX6_kindsThatGoSo_f29 rfl dX6_kindsThatGoSo_24 rfl ?_
      refine V_getf (T := TX5) (k := 0) (q := 30) hC uX6_kindsThatGoSo_5 rfl (iM5 (by decide)) rfl (by decide) kX6_kindsThatGoSo_f286 rfl dX6_kindsThatGoSo_27 rfl ?_
      refine V_iload_n (k := 1) (q := 31) hC 1 rfl dX6_kindsThatGoSo_30 rfl ?_
      refine V_iload (k := 6) (q := 33) hC 6 rfl dX6_kindsThatGoSo_31 rfl ?_
      obtain ⟨g7, hf⟩ := gd_some hf
      obtain ⟨σ8, e9, hf⟩ := sq_ex hf
      have hs10 : RgS σ8 := by rw [e9]; exact RgS_hup hs6 h6
      refine V_iast (n := 4) (q := 34) hC (iM13 (by decide)) rfl g7 h1 e9 dX6_kindsThatGoSo_33 rfl ?_
      refine V_aload_n (k := 0) (q := 35) hC 0 rfl dX6_kindsThatGoSo_34 rfl ?_
      refine V_aload_n (k := 0) (q := 36) hC 0 rfl dX6_kindsThatGoSo_35 rfl ?_
      refine V_getf (T := TX6) (k := 3) (q := 39) hC uX6_kindsThatGoSo_6 rfl iD6 rfl (by decide) kX6_kindsThatGoSo_f29 rfl dX6_kindsThatGoSo_36 rfl ?_
      refine V_getf (T := TX5) (k := 1) (q := 42) hC uX6_kindsThatGoSo_5 rfl (iM5 (by decide)) rfl (by decide) kX6_kindsThatGoSo_f191 rfl dX6_kindsThatGoSo_39 rfl ?_
      refine V_iload_n (k := 1) (q := 43) hC 1 rfl dX6_kindsThatGoSo_42 rfl ?_
      refine V_aload_n (k := 2) (q := 44) hC 2 rfl dX6_kindsThatGoSo_43 rfl ?_
      refine V_iload_n (k := 3) (q := 45) hC 3 rfl dX6_kindsThatGoSo_44 rfl ?_
      refine V_iload (k := 4) (q := 47) hC 4 rfl dX6_kindsThatGoSo_45 rfl ?_
      obtain ⟨r11, σ12, hc13, hf⟩ := cl_some hf
      refine V_cvi (st := []) (q := 50) (x0 := r11) (σ0 := σ12) hC (sX6_goesSo l hG (iM14 (by decide)) h1 hj2 h3 h4 hs10 hc13) (cwV 5 hC.2.2.2.2.1 gX6_kindsThatGoSo_X6_goesSo rfl rfl rfl (by decide +kernel) ⟨Nat.le_of_ble_eq_true rfl, Nat.le_of_ble_eq_true rfl⟩) ⟨_, rfl, rfl⟩ iD6 (fun _ => ⟨_, rfl⟩) rfl rfl (Nat.le_of_ble_eq_true rfl) dX6_kindsThatGoSo_47 rfl ⟨Nat.zero_le _, Nat.zero_le _⟩ (fun hr14 hs15 => ?_)
      refine V_if_eq (tgt := 62) (q := 53) hC hr14 dX6_kindsThatGoSo_50 (by decide) rfl (fun c16 => ?_) (fun c16 => ?_)
      · replace hf := (if_pos c16).symm.trans hf
        refine V_iinc (i := 6) (lv' := [(0, rf G 6 0), (1, iv v1), (2, rf G 3 j2), (3, iv v3), (4, iv v4), (5, iv v5), (6, iv (wr (v6 + 1)))]) (q := 65) hC 6 rfl [1, 2, 3, 4, 5, 6, 0] (by decide) rfl dX6_kindsThatGoSo_62 rfl ?_
        refine V_goto (tgt := 6) hC dX6_kindsThatGoSo_65 (by decide) ?_
        refine V_lsub [0, 1, 2, 3, 4, 5, 6] rfl ?_
        exact ih hs15 h1 h3 h4 h5 (Rg_wr _) hf
      · replace hf := (if_neg c16).symm.trans hf
        refine V_iload (k := 5) (q := 55) hC 5 rfl dX6_kindsThatGoSo_53 rfl ?_
        refine V_iconst (q := 56) hC dX6_kindsThatGoSo_55 rfl ?_
        refine V_iload (k := 6) (q := 58) hC 6 rfl dX6_kindsThatGoSo_56 rfl ?_
        refine V_ishl (q := 59) hC dX6_kindsThatGoSo_58 rfl ?_
        refine V_ior (q := 60) hC dX6_kindsThatGoSo_59 rfl ?_
        refine V_istore (i := 5) (lv' := [(0, rf G 6 0), (1, iv v1), (2, rf G 3 j2), (3, iv v3), (4, iv v4), (5, iv (qor v5 (qshl 1 v6))), (6, iv v6)]) (q := 62) hC [1, 2, 3, 4, 5, 0, 6] (by decide) rfl dX6_kindsThatGoSo_60 rfl ?_
        refine V_iinc (i := 6) (lv' := [(0, rf G 6 0), (1, iv v1), (2, rf G 3 j2), (3, iv v3), (4, iv v4), (5, iv (qor v5 (qshl 1 v6))), (6, iv (wr (v6 + 1)))]) (q := 65) hC 6 rfl [1, 2, 3, 4, 5, 6, 0] (by decide) rfl dX6_kindsThatGoSo_62 rfl ?_
        refine V_goto (tgt := 6) hC dX6_kindsThatGoSo_65 (by decide) ?_
        refine V_lsub [0, 1, 2, 3, 4, 5, 6] rfl ?_
        exact ih hs15 h1 h3 h4 (Rg_qor _ _) (Rg_wr _) hf
set_option maxHeartbeats 4000000 in
set_option maxRecDepth 100000 in
theorem sX6_kindsThatGoSo (l : Launch) {G : GT} (hG : GI G) {v1 : Int} {j2 : Nat} {v3 : Int} {v4 : Int} (h1 : Rg v1) (hj2 : j2 < 8) (h3 : Rg v3) (h4 : Rg v4) {σ : Hp} (hs : RgS σ) {r0 : Int × Hp} (hf : fX6_kindsThatGoSo σ v1 j2 v3 v4 = some r0) : Cti l G yX6_kindsThatGoSo wsX6_kindsThatGoSo rmX6_kindsThatGoSo [rf G 6 0, iv v1, rf G 3 j2, iv v3, iv v4] σ r0.1 r0.2 := by
  unfold fX6_kindsThatGoSo at hf
  refine Cti_start (lv := [(0, rf G 6 0), (1, iv v1), (2, rf G 3 j2), (3, iv v3), (4, iv v4)]) (ret := (some .int)) (by decide +kernel) rfl hG (Nat.le_of_ble_eq_true rfl) rfl (fun p e s m args below meth c hC hr hlk => ?_)
  refine V_iconst (q := 1) hC dX6_kindsThatGoSo_0 rfl ?_
  refine V_istore (i := 5) (lv' := [(0, rf G 6 0), (1, iv v1), (2, rf G 3 j2), (3, iv v3), (4, iv v4), (5, iv 0)]) (q := 3) hC [1, 2, 3, 4, 5, 0] (by decide) rfl dX6_kindsThatGoSo_1 rfl ?_
  refine V_iconst (q := 4) hC dX6_kindsThatGoSo_3 rfl ?_
  refine V_istore (i := 6) (lv' := [(0, rf G 6 0), (1, iv v1), (2, rf G 3 j2), (3, iv v3), (4, iv v4), (5, iv 0), (6, iv 1)]) (q := 6) hC [1, 2, 3, 4, 5, 6, 0] (by decide) rfl dX6_kindsThatGoSo_4 rfl ?_
  refine V_lsub [0, 1, 2, 3, 4, 5, 6] rfl ?_
  exact (tlX6_kindsThatGoSo_6 hG hC hr hlk hj2 FU) hs h1 h3 h4 (Rg_c rfl) (Rg_c rfl) hf
/-! X6_sunsThatGoSo -/
theorem kX6_sunsThatGoSo_f29 : Cond.fieldLink RX6 29 "BarkNames" "tried" "LBarkNames$Wood;" ∈ wsX6_sunsThatGoSo := by decide +kernel
theorem uX6_sunsThatGoSo_6 : ∀ w ∈ u_ws RX6 TX6 10, w ∈ wsX6_sunsThatGoSo := by decide +kernel
theorem kX6_sunsThatGoSo_f25 : Cond.fieldLink RX6 25 "BarkNames" "now" "LBarkNames$Wood;" ∈ wsX6_sunsThatGoSo := by decide +kernel
theorem kX6_sunsThatGoSo_f194 : Cond.fieldLink RX6 194 "BarkNames$Wood" "sunOf" "[I" ∈ wsX6_sunsThatGoSo := by decide +kernel
theorem uX6_sunsThatGoSo_5 : ∀ w ∈ u_ws RX5 TX5 12, w ∈ wsX6_sunsThatGoSo := by decide +kernel
theorem kX6_sunsThatGoSo_f191 : Cond.fieldLink RX6 191 "BarkNames$Wood" "girthOf" "[I" ∈ wsX6_sunsThatGoSo := by decide +kernel
abbrev rmX6_sunsThatGoSo : Room := { frames := 4, cells := 0, slots := 0, locals := 92 }
set_option maxHeartbeats 4000000 in
set_option maxRecDepth 100000 in
theorem tlX6_sunsThatGoSo_6 {p : Program} {l : Launch} {e : Env} {s : State} {m : MethodId} {args : Array Value} {below : List Frame} {meth : Method} {c : Code} {G : GT} (hG : GI G) (hC : CX p s m args c cX6_sunsThatGoSo 7 RX6 wsX6_sunsThatGoSo G (AA G)) (hr : meth.sig.returnType = (some .int)) (hlk : meth.locks = false) {j2 : Nat} (hj2 : j2 < 8) {r0 : Int × Hp} : ∀ n : Nat, (∀ {σ : Hp} (hs : RgS σ) {v1 : Int} {v3 : Int} {v4 : Int} {v5 : Int} {v6 : Int} (h1 : Rg v1) (h3 : Rg v3) (h4 : Rg v4) (h5 : Rg v5) (h6 : Rg v6) (hf : lX6_sunsThatGoSo_6 n σ j2 v1 v3 v4 v5 v6 = some r0), VV p l e (headSpec wsX6_sunsThatGoSo rmX6_sunsThatGoSo).room s m args below meth c (MQ below (QI G r0.1 r0.2) args s 0 0 (AA G)) G (AA G) 0 0 7 σ 6 [(0, rf G 6 0), (1, iv v1), (2, rf G 3 j2), (3, iv v3), (4, iv v4), (5, iv v5), (6, iv v6)] []) := by
  intro n
  induction n with
  | zero =>
    exact by intro σ hs v1 v3 v4 v5 v6 h1 h3 h4 h5 h6 hf; exact absurd (show (none : Option (Int × Hp)) = some r0 from hf) (fun z => by cases z)
  | succ n ih =>
    intro σ hs v1 v3 v4 v5 v6 h1 h3 h4 h5 h6 hf
    replace hf := (lX6_sunsThatGoSo_6_e0 n σ j2 v1 v3 v4 v5 v6).symm.trans hf
    refine V_iload (k := 6) (q := 8) hC 6 rfl dX6_sunsThatGoSo_6 rfl ?_
    refine V_bipush (q := 10) hC (by decide) dX6_sunsThatGoSo_8 rfl ?_
    refine V_icmp_gt (tgt := 69) (q := 13) hC h6 (Rg_c rfl) dX6_sunsThatGoSo_10 (by decide) rfl (fun c1 => ?_) (fun c1 => ?_)
    · replace hf := (if_pos c1).symm.trans hf
      refine V_iload (k := 5) (q := 71) hC 5 rfl dX6_sunsThatGoSo_69 rfl ?_
      exact V_iret hC hr hlk (re_1 hf) (re_2 hf) h5 hs dX6_sunsThatGoSo_71
    · replace hf := (if_neg c1).symm.trans hf
      refine V_aload_n (k := 0) (q := 14) hC 0 rfl dX6_sunsThatGoSo_13 rfl ?_
      refine V_getf (T := TX6) (k := 3) (q := 17) hC uX6_sunsThatGoSo_6 rfl iD6 rfl (by decide) kX6_sunsThatGoSo_f29 rfl dX6_sunsThatGoSo_14 rfl ?_
      refine V_aload_n (k := 0) (q := 18) hC 0 rfl dX6_sunsThatGoSo_17 rfl ?_
      refine V_getf (T := TX6) (k := 2) (q := 21) hC uX6_sunsThatGoSo_6 rfl iD6 rfl (by decide) kX6_sunsThatGoSo_f25 rfl dX6_sunsThatGoSo_18 rfl ?_
      obtain ⟨r2, σ3, hc4, hf⟩ := cl_some hf
      refine V_cvv (st := []) (q := 24) (σ0 := σ3) hC (sX5_become l hG (by decide) (by decide) hs hc4) (cwV 1 hC.2.2.2.2.1 gX6_sunsThatGoSo_X5_become rfl rfl rfl (by decide +kernel) ⟨Nat.le_of_ble_eq_true rfl, Nat.le_of_ble_eq_true rfl⟩) ⟨_, rfl, rfl⟩ (iM5 (by decide)) (fun _ => ⟨_, rfl⟩) rfl rfl (Nat.le_of_ble_eq_true rfl) dX6_sunsThatGoSo_21 rfl ⟨Nat.zero_le _, Nat.zero_le _⟩ (fun hs6 => ?_)
      refine V_aload_n (k := 0) (q := 25) hC 0 rfl dX6_sunsThatGoSo_24 rfl ?_
      refine V_getf (T := TX6) (k := 3) (q := 28) hC uX6_sunsThatGoSo_6 rfl iD6 rfl (by decide) kX6_sunsThatGoSo_f29 rfl dX6_sunsThatGoSo_25 rfl ?_
      refine V_getf (T := TX5) (k := 2) (q := 31) hC uX6_sunsThatGoSo_5 rfl (iM5 (by decide)) rfl (by decide) kX6_sunsThatGoSo_f194 rfl dX6_sunsThatGoSo_28 rfl ?_
      refine V_iload_n (k := 1) (q := 32) hC 1 rfl dX6_sunsThatGoSo_31 rfl ?_
      refine V_iload (k := 6) (q := 34) hC 6 rfl dX6_sunsThatGoSo_32 rfl ?_
      obtain ⟨g7, hf⟩ := gd_some hf
      obtain ⟨σ8, e9, hf⟩ := sq_ex hf
      have hs10 : RgS σ8 := by rw [e9]; exact RgS_hup hs6 h6
      refine V_iast (n := 4) (q := 35) hC (iM15 (by decide)) rfl g7 h1 e9 dX6_sunsThatGoSo_34 rfl ?_
      refine V_aload_n (k := 0) (q := 36) hC 0 rfl dX6_sunsThatGoSo_35 rfl ?_
      refine V_aload_n (k := 0) (q := 37) hC 0 rfl dX6_sunsThatGoSo_36 rfl ?_
      refine V_getf (T := TX6) (k := 3) (q := 40) hC uX6_sunsThatGoSo_6 rfl iD6 rfl (by decide) kX6_sunsThatGoSo_f29 rfl dX6_sunsThatGoSo_37 rfl ?_
      refine V_getf (T := TX5) (k := 1) (q := 43) hC uX6_sunsThatGoSo_5 rfl (iM5 (by decide)) rfl (by decide) kX6_sunsThatGoSo_f191 rfl dX6_sunsThatGoSo_40 rfl ?_
      refine V_iload_n (k := 1) (q := 44) hC 1 rfl dX6_sunsThatGoSo_43 rfl ?_
      refine V_aload_n (k := 2) (q := 45) hC 2 rfl dX6_sunsThatGoSo_44 rfl ?_
      refine V_iload_n (k := 3) (q := 46) hC 3 rfl dX6_sunsThatGoSo_45 rfl ?_
      refine V_iload (k := 4) (q := 48) hC 4 rfl dX6_sunsThatGoSo_46 rfl ?_
      obtain ⟨r11, σ12, hc13, hf⟩ := cl_some hf
      refine V_cvi (st := []) (q := 51) (x0 := r11) (σ0 := σ12) hC (sX6_goesSo l hG (iM14 (by decide)) h1 hj2 h3 h4 hs10 hc13) (cwV 5 hC.2.2.2.2.1 gX6_sunsThatGoSo_X6_goesSo rfl rfl rfl (by decide +kernel) ⟨Nat.le_of_ble_eq_true rfl, Nat.le_of_ble_eq_true rfl⟩) ⟨_, rfl, rfl⟩ iD6 (fun _ => ⟨_, rfl⟩) rfl rfl (Nat.le_of_ble_eq_true rfl) dX6_sunsThatGoSo_48 rfl ⟨Nat.zero_le _, Nat.zero_le _⟩ (fun hr14 hs15 => ?_)
      refine V_if_eq (tgt := 63) (q := 54) hC hr14 dX6_sunsThatGoSo_51 (by decide) rfl (fun c16 => ?_) (fun c16 => ?_)
      · replace hf := (if_pos c16).symm.trans hf
        refine V_iinc (i := 6) (lv' := [(0, rf G 6 0), (1, iv v1), (2, rf G 3 j2), (3, iv v3), (4, iv v4), (5, iv v5), (6, iv (wr (v6 + 1)))]) (q := 66) hC 6 rfl [1, 2, 3, 4, 5, 6, 0] (by decide) rfl dX6_sunsThatGoSo_63 rfl ?_
        refine V_goto (tgt := 6) hC dX6_sunsThatGoSo_66 (by decide) ?_
        refine V_lsub [0, 1, 2, 3, 4, 5, 6] rfl ?_
        exact ih hs15 h1 h3 h4 h5 (Rg_wr _) hf
      · replace hf := (if_neg c16).symm.trans hf
        refine V_iload (k := 5) (q := 56) hC 5 rfl dX6_sunsThatGoSo_54 rfl ?_
        refine V_iconst (q := 57) hC dX6_sunsThatGoSo_56 rfl ?_
        refine V_iload (k := 6) (q := 59) hC 6 rfl dX6_sunsThatGoSo_57 rfl ?_
        refine V_ishl (q := 60) hC dX6_sunsThatGoSo_59 rfl ?_
        refine V_ior (q := 61) hC dX6_sunsThatGoSo_60 rfl ?_
        refine V_istore (i := 5) (lv' := [(0, rf G 6 0), (1, iv v1), (2, rf G 3 j2), (3, iv v3), (4, iv v4), (5, iv (qor v5 (qshl 1 v6))), (6, iv v6)]) (q := 63) hC [1, 2, 3, 4, 5, 0, 6] (by decide) rfl dX6_sunsThatGoSo_61 rfl ?_
        refine V_iinc (i := 6) (lv' := [(0, rf G 6 0), (1, iv v1), (2, rf G 3 j2), (3, iv v3), (4, iv v4), (5, iv (qor v5 (qshl 1 v6))), (6, iv (wr (v6 + 1)))]) (q := 66) hC 6 rfl [1, 2, 3, 4, 5, 6, 0] (by decide) rfl dX6_sunsThatGoSo_63 rfl ?_
        refine V_goto (tgt := 6) hC dX6_sunsThatGoSo_66 (by decide) ?_
        refine V_lsub [0, 1, 2, 3, 4, 5, 6] rfl ?_
        exact ih hs15 h1 h3 h4 (Rg_qor _ _) (Rg_wr _) hf
set_option maxHeartbeats 4000000 in
set_option maxRecDepth 100000 in
theorem sX6_sunsThatGoSo (l : Launch) {G : GT} (hG : GI G) {v1 : Int} {j2 : Nat} {v3 : Int} {v4 : Int} (h1 : Rg v1) (hj2 : j2 < 8) (h3 : Rg v3) (h4 : Rg v4) {σ : Hp} (hs : RgS σ) {r0 : Int × Hp} (hf : fX6_sunsThatGoSo σ v1 j2 v3 v4 = some r0) : Cti l G yX6_sunsThatGoSo wsX6_sunsThatGoSo rmX6_sunsThatGoSo [rf G 6 0, iv v1, rf G 3 j2, iv v3, iv v4] σ r0.1 r0.2 := by
  unfold fX6_sunsThatGoSo at hf
  refine Cti_start (lv := [(0, rf G 6 0), (1, iv v1), (2, rf G 3 j2), (3, iv v3), (4, iv v4)]) (ret := (some .int)) (by decide +kernel) rfl hG (Nat.le_of_ble_eq_true rfl) rfl (fun p e s m args below meth c hC hr hlk => ?_)
  refine V_iconst (q := 1) hC dX6_sunsThatGoSo_0 rfl ?_
  refine V_istore (i := 5) (lv' := [(0, rf G 6 0), (1, iv v1), (2, rf G 3 j2), (3, iv v3), (4, iv v4), (5, iv 0)]) (q := 3) hC [1, 2, 3, 4, 5, 0] (by decide) rfl dX6_sunsThatGoSo_1 rfl ?_
  refine V_iconst (q := 4) hC dX6_sunsThatGoSo_3 rfl ?_
  refine V_istore (i := 6) (lv' := [(0, rf G 6 0), (1, iv v1), (2, rf G 3 j2), (3, iv v3), (4, iv v4), (5, iv 0), (6, iv 0)]) (q := 6) hC [1, 2, 3, 4, 5, 6, 0] (by decide) rfl dX6_sunsThatGoSo_4 rfl ?_
  refine V_lsub [0, 1, 2, 3, 4, 5, 6] rfl ?_
  exact (tlX6_sunsThatGoSo_6 hG hC hr hlk hj2 FU) hs h1 h3 h4 (Rg_c rfl) (Rg_c rfl) hf
/-! X6_which -/
theorem kX6_which_f25 : Cond.fieldLink RX6 25 "BarkNames" "now" "LBarkNames$Wood;" ∈ wsX6_which := by decide +kernel
theorem uX6_which_6 : ∀ w ∈ u_ws RX6 TX6 10, w ∈ wsX6_which := by decide +kernel
theorem kX6_which_c62 : Cond.constant RX6 62 (-1000001) ∈ wsX6_which := by decide +kernel
theorem kX6_which_f11 : Cond.fieldLink RX6 11 "BarkNames" "rows" "[LBarkNames$Row;" ∈ wsX6_which := by decide +kernel
abbrev rmX6_which : Room := { frames := 5, cells := 0, slots := 0, locals := 118 }
set_option maxHeartbeats 4000000 in
set_option maxRecDepth 100000 in
theorem sX6_which (l : Launch) {G : GT} (hG : GI G) {v1 : Int} {v2 : Int} {v3 : Int} {v4 : Int} {v5 : Int} (h1 : Rg v1) (h2 : Rg v2) (h3 : Rg v3) (h4 : Rg v4) (h5 : Rg v5) {σ : Hp} (hs : RgS σ) {r0 : Int × Hp} (hf : fX6_which σ v1 v2 v3 v4 v5 = some r0) : Cti l G yX6_which wsX6_which rmX6_which [rf G 6 0, iv v1, iv v2, iv v3, iv v4, iv v5] σ r0.1 r0.2 := by
  unfold fX6_which at hf
  refine Cti_start (lv := [(0, rf G 6 0), (1, iv v1), (2, iv v2), (3, iv v3), (4, iv v4), (5, iv v5)]) (ret := (some .int)) (by decide +kernel) rfl hG (Nat.le_of_ble_eq_true rfl) rfl (fun p e s m args below meth c hC hr hlk => ?_)
  refine V_aload_n (k := 0) (q := 1) hC 0 rfl dX6_which_0 rfl ?_
  refine V_getf (T := TX6) (k := 2) (q := 4) hC uX6_which_6 rfl iD6 rfl (by decide) kX6_which_f25 rfl dX6_which_1 rfl ?_
  refine V_iload_n (k := 1) (q := 5) hC 1 rfl dX6_which_4 rfl ?_
  refine V_cvi (st := []) (q := 8) hC (sX5_hasTree l hG (by decide) h1 hs) (cwV 1 hC.2.2.2.2.1 gX6_which_X5_hasTree rfl rfl rfl (by decide +kernel) ⟨Nat.le_of_ble_eq_true rfl, Nat.le_of_ble_eq_true rfl⟩) ⟨_, rfl, rfl⟩ (iM5 (by decide)) (fun _ => ⟨_, rfl⟩) rfl rfl (Nat.le_of_ble_eq_true rfl) dX6_which_5 rfl ⟨Nat.zero_le _, Nat.zero_le _⟩ (fun hr1 _ => ?_)
  refine V_if_eq (tgt := 34) (q := 11) hC hr1 dX6_which_8 (by decide) rfl (fun c2 => ?_) (fun c2 => ?_)
  · replace hf := (if_pos c2).symm.trans hf
    refine V_ldc (q := 36) (n := (-1000001)) hC (by decide) kX6_which_c62 dX6_which_34 rfl ?_
    exact V_iret hC hr hlk (re_1 hf) (re_2 hf) (Rg_c rfl) hs dX6_which_36
  · replace hf := (if_neg c2).symm.trans hf
    refine V_iload_n (k := 2) (q := 12) hC 2 rfl dX6_which_11 rfl ?_
    refine V_csi (st := []) (q := 15) hC (sX6_isRow l hG h2 hs) (va_cwS 1 hC.2.2.2.2.1 gX6_which_X6_isRow rfl rfl rfl (by decide +kernel) ⟨Nat.le_of_ble_eq_true rfl, Nat.le_of_ble_eq_true rfl⟩) rfl rfl (Nat.le_of_ble_eq_true rfl) dX6_which_12 rfl ⟨Nat.zero_le _, Nat.zero_le _⟩ (fun hr3 _ => ?_)
    refine V_if_eq (tgt := 34) (q := 18) hC hr3 dX6_which_15 (by decide) rfl (fun c4 => ?_) (fun c4 => ?_)
    · replace hf := (if_pos c4).symm.trans hf
      refine V_ldc (q := 36) (n := (-1000001)) hC (by decide) kX6_which_c62 dX6_which_34 rfl ?_
      exact V_iret hC hr hlk (re_1 hf) (re_2 hf) (Rg_c rfl) hs dX6_which_36
    · replace hf := (if_neg c4).symm.trans hf
      refine V_iload (k := 4) (q := 20) hC 4 rfl dX6_which_18 rfl ?_
      refine V_csi (st := []) (q := 23) hC (sX6_isTold l hG h4 hs) (va_cwS 1 hC.2.2.2.2.1 gX6_which_X6_isTold rfl rfl rfl (by decide +kernel) ⟨Nat.le_of_ble_eq_true rfl, Nat.le_of_ble_eq_true rfl⟩) rfl rfl (Nat.le_of_ble_eq_true rfl) dX6_which_20 rfl ⟨Nat.zero_le _, Nat.zero_le _⟩ (fun hr5 _ => ?_)
      refine V_if_eq (tgt := 34) (q := 26) hC hr5 dX6_which_23 (by decide) rfl (fun c6 => ?_) (fun c6 => ?_)
      · replace hf := (if_pos c6).symm.trans hf
        refine V_ldc (q := 36) (n := (-1000001)) hC (by decide) kX6_which_c62 dX6_which_34 rfl ?_
        exact V_iret hC hr hlk (re_1 hf) (re_2 hf) (Rg_c rfl) hs dX6_which_36
      · replace hf := (if_neg c6).symm.trans hf
        refine V_iload (k := 5) (q := 28) hC 5 rfl dX6_which_26 rfl ?_
        refine V_csi (st := []) (q := 31) hC (sX6_isChoice l hG h5 hs) (va_cwS 1 hC.2.2.2.2.1 gX6_which_X6_isChoice rfl rfl rfl (by decide +kernel) ⟨Nat.le_of_ble_eq_true rfl, Nat.le_of_ble_eq_true rfl⟩) rfl rfl (Nat.le_of_ble_eq_true rfl) dX6_which_28 rfl ⟨Nat.zero_le _, Nat.zero_le _⟩ (fun hr7 _ => ?_)
        refine V_if_ne (tgt := 37) (q := 34) hC hr7 dX6_which_31 (by decide) rfl (fun c8 => ?_) (fun c8 => ?_)
        · replace hf := (if_neg c8).symm.trans hf
          refine V_aload_n (k := 0) (q := 38) hC 0 rfl dX6_which_37 rfl ?_
          refine V_getf (T := TX6) (k := 0) (q := 41) hC uX6_which_6 rfl iD6 rfl (by decide) kX6_which_f11 rfl dX6_which_38 rfl ?_
          refine V_iload_n (k := 2) (q := 42) hC 2 rfl dX6_which_41 rfl ?_
          obtain ⟨g9, hf⟩ := gd_some hf
          refine V_aald20 (q := 43) hC g9 h2 dX6_which_42 rfl ?_
          have hj10 : v2.toNat < 8 := by omega
          refine V_iload_n (k := 3) (q := 44) hC 3 rfl dX6_which_43 rfl ?_
          refine V_iload (k := 4) (q := 46) hC 4 rfl dX6_which_44 rfl ?_
          refine V_csi (st := []) (q := 49) hC (sX6_findingIn l hG hj10 h3 h4 hs) (va_cwS 3 hC.2.2.2.2.1 gX6_which_X6_findingIn rfl rfl rfl (by decide +kernel) ⟨Nat.le_of_ble_eq_true rfl, Nat.le_of_ble_eq_true rfl⟩) rfl rfl (Nat.le_of_ble_eq_true rfl) dX6_which_46 rfl ⟨Nat.zero_le _, Nat.zero_le _⟩ (fun hr11 _ => ?_)
          refine V_istore (i := 6) (lv' := [(0, rf G 6 0), (1, iv v1), (2, iv v2), (3, iv v3), (4, iv v4), (5, iv v5), (6, iv (fX6_findingIn σ v2.toNat v3 v4))]) (q := 51) hC [1, 2, 3, 4, 5, 6, 0] (by decide) rfl dX6_which_49 rfl ?_
          refine V_iload (k := 6) (q := 53) hC 6 rfl dX6_which_51 rfl ?_
          refine V_if_eq (tgt := 63) (q := 56) hC hr11 dX6_which_53 (by decide) rfl (fun c12 => ?_) (fun c12 => ?_)
          · replace hf := (if_pos c12).symm.trans hf
            refine V_aload_n (k := 0) (q := 64) hC 0 rfl dX6_which_63 rfl ?_
            refine V_iload (k := 5) (q := 66) hC 5 rfl dX6_which_64 rfl ?_
            refine V_if_ne (tgt := 86) (q := 69) hC h5 dX6_which_66 (by decide) rfl (fun c13 => ?_) (fun c13 => ?_)
            · replace hf := (if_neg c13).symm.trans hf
              refine V_aload_n (k := 0) (q := 87) hC 0 rfl dX6_which_86 rfl ?_
              refine V_iload_n (k := 1) (q := 88) hC 1 rfl dX6_which_87 rfl ?_
              refine V_aload_n (k := 0) (q := 89) hC 0 rfl dX6_which_88 rfl ?_
              refine V_getf (T := TX6) (k := 0) (q := 92) hC uX6_which_6 rfl iD6 rfl (by decide) kX6_which_f11 rfl dX6_which_89 rfl ?_
              refine V_iload_n (k := 2) (q := 93) hC 2 rfl dX6_which_92 rfl ?_
              obtain ⟨g14, hf⟩ := gd_some hf
              refine V_aald20 (q := 94) hC g14 h2 dX6_which_93 rfl ?_
              have hj15 : v2.toNat < 8 := by omega
              refine V_iload_n (k := 3) (q := 95) hC 3 rfl dX6_which_94 rfl ?_
              refine V_iload (k := 4) (q := 97) hC 4 rfl dX6_which_95 rfl ?_
              obtain ⟨r16, σ17, hc18, hf⟩ := cl_some hf
              refine V_cvi (st := [rf G 6 0]) (q := 100) (x0 := r16) (σ0 := σ17) hC (sX6_sunsThatGoSo l hG h1 hj15 h3 h4 hs hc18) (cwV 4 hC.2.2.2.2.1 gX6_which_X6_sunsThatGoSo rfl rfl rfl (by decide +kernel) ⟨Nat.le_of_ble_eq_true rfl, Nat.le_of_ble_eq_true rfl⟩) ⟨_, rfl, rfl⟩ iD6 (fun _ => ⟨_, rfl⟩) rfl rfl (Nat.le_of_ble_eq_true rfl) dX6_which_97 rfl ⟨Nat.zero_le _, Nat.zero_le _⟩ (fun hr19 hs20 => ?_)
              obtain ⟨r21, σ22, hc23, hf⟩ := cl_some hf
              refine V_cvi (st := []) (q := 103) (x0 := r21) (σ0 := σ22) hC (sX6_foundNothing l hG hr19 hs20 hc23) (cwV 1 hC.2.2.2.2.1 gX6_which_X6_foundNothing rfl rfl rfl (by decide +kernel) ⟨Nat.le_of_ble_eq_true rfl, Nat.le_of_ble_eq_true rfl⟩) ⟨_, rfl, rfl⟩ iD6 (fun _ => ⟨_, rfl⟩) rfl rfl (Nat.le_of_ble_eq_true rfl) dX6_which_100 rfl ⟨Nat.zero_le _, Nat.zero_le _⟩ (fun hr24 hs25 => ?_)
              exact V_iret hC hr hlk (re_1 hf) (re_2 hf) hr24 hs25 dX6_which_103
            · replace hf := (if_pos c13).symm.trans hf
              refine V_aload_n (k := 0) (q := 70) hC 0 rfl dX6_which_69 rfl ?_
              refine V_iload_n (k := 1) (q := 71) hC 1 rfl dX6_which_70 rfl ?_
              refine V_aload_n (k := 0) (q := 72) hC 0 rfl dX6_which_71 rfl ?_
              refine V_getf (T := TX6) (k := 0) (q := 75) hC uX6_which_6 rfl iD6 rfl (by decide) kX6_which_f11 rfl dX6_which_72 rfl ?_
              refine V_iload_n (k := 2) (q := 76) hC 2 rfl dX6_which_75 rfl ?_
              obtain ⟨g26, hf⟩ := gd_some hf
              refine V_aald20 (q := 77) hC g26 h2 dX6_which_76 rfl ?_
              have hj27 : v2.toNat < 8 := by omega
              refine V_iload_n (k := 3) (q := 78) hC 3 rfl dX6_which_77 rfl ?_
              refine V_iload (k := 4) (q := 80) hC 4 rfl dX6_which_78 rfl ?_
              obtain ⟨r28, σ29, hc30, hf⟩ := cl_some hf
              refine V_cvi (st := [rf G 6 0]) (q := 83) (x0 := r28) (σ0 := σ29) hC (sX6_kindsThatGoSo l hG h1 hj27 h3 h4 hs hc30) (cwV 4 hC.2.2.2.2.1 gX6_which_X6_kindsThatGoSo rfl rfl rfl (by decide +kernel) ⟨Nat.le_of_ble_eq_true rfl, Nat.le_of_ble_eq_true rfl⟩) ⟨_, rfl, rfl⟩ iD6 (fun _ => ⟨_, rfl⟩) rfl rfl (Nat.le_of_ble_eq_true rfl) dX6_which_80 rfl ⟨Nat.zero_le _, Nat.zero_le _⟩ (fun hr31 hs32 => ?_)
              refine V_goto (tgt := 100) hC dX6_which_83 (by decide) ?_
              obtain ⟨r33, σ34, hc35, hf⟩ := cl_some hf
              refine V_cvi (st := []) (q := 103) (x0 := r33) (σ0 := σ34) hC (sX6_foundNothing l hG hr31 hs32 hc35) (cwV 1 hC.2.2.2.2.1 gX6_which_X6_foundNothing rfl rfl rfl (by decide +kernel) ⟨Nat.le_of_ble_eq_true rfl, Nat.le_of_ble_eq_true rfl⟩) ⟨_, rfl, rfl⟩ iD6 (fun _ => ⟨_, rfl⟩) rfl rfl (Nat.le_of_ble_eq_true rfl) dX6_which_100 rfl ⟨Nat.zero_le _, Nat.zero_le _⟩ (fun hr36 hs37 => ?_)
              exact V_iret hC hr hlk (re_1 hf) (re_2 hf) hr36 hs37 dX6_which_103
          · replace hf := (if_neg c12).symm.trans hf
            refine V_aload_n (k := 0) (q := 57) hC 0 rfl dX6_which_56 rfl ?_
            refine V_iload (k := 6) (q := 59) hC 6 rfl dX6_which_57 rfl ?_
            obtain ⟨r38, σ39, hc40, hf⟩ := cl_some hf
            refine V_cvi (st := []) (q := 62) (x0 := r38) (σ0 := σ39) hC (sX6_found l hG hr11 hs hc40) (cwV 1 hC.2.2.2.2.1 gX6_which_X6_found rfl rfl rfl (by decide +kernel) ⟨Nat.le_of_ble_eq_true rfl, Nat.le_of_ble_eq_true rfl⟩) ⟨_, rfl, rfl⟩ iD6 (fun _ => ⟨_, rfl⟩) rfl rfl (Nat.le_of_ble_eq_true rfl) dX6_which_59 rfl ⟨Nat.zero_le _, Nat.zero_le _⟩ (fun hr41 hs42 => ?_)
            exact V_iret hC hr hlk (re_1 hf) (re_2 hf) hr41 hs42 dX6_which_62
        · replace hf := (if_pos c8).symm.trans hf
          refine V_ldc (q := 36) (n := (-1000001)) hC (by decide) kX6_which_c62 dX6_which_34 rfl ?_
          exact V_iret hC hr hlk (re_1 hf) (re_2 hf) (Rg_c rfl) hs dX6_which_36
/-! X6_power -/
abbrev rmX6_power : Room := { frames := 0, cells := 0, slots := 0, locals := 0 }
set_option maxHeartbeats 4000000 in
set_option maxRecDepth 100000 in
theorem tlX6_power_4 {p : Program} {l : Launch} {e : Env} {s : State} {m : MethodId} {args : Array Value} {below : List Frame} {meth : Method} {c : Code} {G : GT} (hG : GI G) (hC : CX p s m args c cX6_power 4 RX6 wsX6_power G (AA G)) (hr : meth.sig.returnType = (some .int)) (hlk : meth.locks = false) {r0 : Int × Hp} : ∀ n : Nat, (∀ {σ : Hp} (hs : RgS σ) {v0 : Int} {v1 : Int} {v2 : Int} {v3 : Int} (h0 : Rg v0) (h1 : Rg v1) (h2 : Rg v2) (h3 : Rg v3) (hf : lX6_power_4 n σ v0 v1 v2 v3 = some r0), VV p l e (headSpec wsX6_power rmX6_power).room s m args below meth c (MQ below (QI G r0.1 r0.2) args s 0 0 (AA G)) G (AA G) 0 0 4 σ 4 [(0, iv v0), (1, iv v1), (2, iv v2), (3, iv v3)] []) := by
  intro n
  induction n with
  | zero =>
    exact by intro σ hs v0 v1 v2 v3 h0 h1 h2 h3 hf; exact absurd (show (none : Option (Int × Hp)) = some r0 from hf) (fun z => by cases z)
  | succ n ih =>
    intro σ hs v0 v1 v2 v3 h0 h1 h2 h3 hf
    replace hf := (lX6_power_4_e0 n σ v0 v1 v2 v3).symm.trans hf
    refine V_iload_n (k := 3) (q := 5) hC 3 rfl dX6_power_4 rfl ?_
    refine V_iload_n (k := 1) (q := 6) hC 1 rfl dX6_power_5 rfl ?_
    refine V_icmp_ge (tgt := 19) (q := 9) hC h3 h1 dX6_power_6 (by decide) rfl (fun c1 => ?_) (fun c1 => ?_)
    · replace hf := (if_pos c1).symm.trans hf
      refine V_iload_n (k := 2) (q := 20) hC 2 rfl dX6_power_19 rfl ?_
      exact V_iret hC hr hlk (re_1 hf) (re_2 hf) h2 hs dX6_power_20
    · replace hf := (if_neg c1).symm.trans hf
      refine V_iload_n (k := 2) (q := 10) hC 2 rfl dX6_power_9 rfl ?_
      refine V_iload_n (k := 0) (q := 11) hC 0 rfl dX6_power_10 rfl ?_
      refine V_imul (q := 12) hC dX6_power_11 rfl ?_
      refine V_istore_n (k := 2) (i := 2) (lv' := [(0, iv v0), (1, iv v1), (2, iv (wr (v2 * v0))), (3, iv v3)]) (q := 13) hC [1, 2, 0, 3] rfl (by decide) rfl dX6_power_12 rfl ?_
      refine V_iinc (i := 3) (lv' := [(0, iv v0), (1, iv v1), (2, iv (wr (v2 * v0))), (3, iv (wr (v3 + 1)))]) (q := 16) hC 3 rfl [1, 2, 3, 0] (by decide) rfl dX6_power_13 rfl ?_
      refine V_goto (tgt := 4) hC dX6_power_16 (by decide) ?_
      refine V_lsub [0, 1, 2, 3] rfl ?_
      exact ih hs h0 h1 (Rg_wr _) (Rg_wr _) hf
set_option maxHeartbeats 4000000 in
set_option maxRecDepth 100000 in
theorem sX6_power (l : Launch) {G : GT} (hG : GI G) {v0 : Int} {v1 : Int} (h0 : Rg v0) (h1 : Rg v1) {σ : Hp} (hs : RgS σ) {r0 : Int × Hp} (hf : fX6_power σ v0 v1 = some r0) : Cti l G yX6_power wsX6_power rmX6_power [iv v0, iv v1] σ r0.1 r0.2 := by
  unfold fX6_power at hf
  refine Cti_start (lv := [(0, iv v0), (1, iv v1)]) (ret := (some .int)) (by decide +kernel) rfl hG (Nat.le_of_ble_eq_true rfl) rfl (fun p e s m args below meth c hC hr hlk => ?_)
  refine V_iconst (q := 1) hC dX6_power_0 rfl ?_
  refine V_istore_n (k := 2) (i := 2) (lv' := [(0, iv v0), (1, iv v1), (2, iv 1)]) (q := 2) hC [1, 2, 0] rfl (by decide) rfl dX6_power_1 rfl ?_
  refine V_iconst (q := 3) hC dX6_power_2 rfl ?_
  refine V_istore_n (k := 3) (i := 3) (lv' := [(0, iv v0), (1, iv v1), (2, iv 1), (3, iv 0)]) (q := 4) hC [1, 2, 3, 0] rfl (by decide) rfl dX6_power_3 rfl ?_
  refine V_lsub [0, 1, 2, 3] rfl ?_
  exact (tlX6_power_4 hG hC hr hlk FU) hs h0 h1 (Rg_c rfl) (Rg_c rfl) hf
/-! X6_stormWays -/
theorem kX6_stormWays_f46 : Cond.fieldLink RX6 46 "BarkNames" "reading" "LBarkNames$Reading;" ∈ wsX6_stormWays := by decide +kernel
theorem uX6_stormWays_6 : ∀ w ∈ u_ws RX6 TX6 10, w ∈ wsX6_stormWays := by decide +kernel
theorem kX6_stormWays_f25 : Cond.fieldLink RX6 25 "BarkNames" "now" "LBarkNames$Wood;" ∈ wsX6_stormWays := by decide +kernel
theorem kX6_stormWays_f203 : Cond.fieldLink RX6 203 "BarkNames$Wood" "treeOf" "[I" ∈ wsX6_stormWays := by decide +kernel
theorem uX6_stormWays_5 : ∀ w ∈ u_ws RX5 TX5 12, w ∈ wsX6_stormWays := by decide +kernel
abbrev rmX6_stormWays : Room := { frames := 5, cells := 0, slots := 0, locals := 111 }
set_option maxHeartbeats 4000000 in
set_option maxRecDepth 100000 in
theorem tlX6_stormWays_35 {p : Program} {l : Launch} {e : Env} {s : State} {m : MethodId} {args : Array Value} {below : List Frame} {meth : Method} {c : Code} {G : GT} (hG : GI G) (hC : CX p s m args c cX6_stormWays 8 RX6 wsX6_stormWays G (AA G)) (hr : meth.sig.returnType = (some .int)) (hlk : meth.locks = false) {r0 : Int × Hp} : ∀ n : Nat, (∀ {σ : Hp} (hs : RgS σ) {v1 : Int} {v2 : Int} {v3 : Int} {v4 : Int} {v5 : Int} {v6 : Int} (h1 : Rg v1) (h2 : Rg v2) (h3 : Rg v3) (h4 : Rg v4) (h5 : Rg v5) (h6 : Rg v6) (hf : lX6_stormWays_35 n 0 σ v1 v2 v3 v4 v5 v6 0 = some r0), VV p l e (headSpec wsX6_stormWays rmX6_stormWays).room s m args below meth c (MQ below (QI G r0.1 r0.2) args s 0 0 (AA G)) G (AA G) 0 0 8 σ 35 [(0, rf G 6 0), (1, iv v1), (2, iv v2), (3, iv v3), (4, iv v4), (5, iv v5), (6, iv v6)] []) ∧ (∀ {σ : Hp} (hs : RgS σ) {v1 : Int} {v2 : Int} {v3 : Int} {v4 : Int} {v5 : Int} {v6 : Int} {w0 : Int} (h1 : Rg v1) (h2 : Rg v2) (h3 : Rg v3) (h4 : Rg v4) (h5 : Rg v5) (h6 : Rg v6) (hw0 : Rg w0) (hf : lX6_stormWays_35 n 1 σ v1 v2 v3 v4 v5 v6 w0 = some r0), VV p l e (headSpec wsX6_stormWays rmX6_stormWays).room s m args below meth c (MQ below (QI G r0.1 r0.2) args s 0 0 (AA G)) G (AA G) 0 0 8 σ 75 [(0, rf G 6 0), (1, iv v1), (2, iv v2), (3, iv v3), (4, iv v4), (5, iv v5), (6, iv v6)] [iv w0]) := by
  intro n
  induction n with
  | zero =>
    exact ⟨by intro σ hs v1 v2 v3 v4 v5 v6 h1 h2 h3 h4 h5 h6 hf; exact absurd (show (none : Option (Int × Hp)) = some r0 from hf) (fun z => by cases z), by intro σ hs v1 v2 v3 v4 v5 v6 w0 h1 h2 h3 h4 h5 h6 hw0 hf; exact absurd (show (none : Option (Int × Hp)) = some r0 from hf) (fun z => by cases z)⟩
  | succ n ih =>
    refine ⟨?_, ?_⟩
    · intro σ hs v1 v2 v3 v4 v5 v6 h1 h2 h3 h4 h5 h6 hf
      replace hf := (lX6_stormWays_35_e0 n σ v1 v2 v3 v4 v5 v6 0).symm.trans hf
      refine V_iload (k := 6) (q := 37) hC 6 rfl dX6_stormWays_35 rfl ?_
      refine V_iload (k := 4) (q := 39) hC 4 rfl dX6_stormWays_37 rfl ?_
      refine V_icmp_gt (tgt := 137) (q := 42) hC h6 h4 dX6_stormWays_39 (by decide) rfl (fun c12 => ?_) (fun c12 => ?_)
      · replace hf := (if_pos c12).symm.trans hf
        refine V_iload (k := 5) (q := 139) hC 5 rfl dX6_stormWays_137 rfl ?_
        exact V_iret hC hr hlk (re_1 hf) (re_2 hf) h5 hs dX6_stormWays_139
      · replace hf := (if_neg c12).symm.trans hf
        refine V_iload (k := 6) (q := 44) hC 6 rfl dX6_stormWays_42 rfl ?_
        refine V_iload (k := 4) (q := 46) hC 4 rfl dX6_stormWays_44 rfl ?_
        refine V_iconst (q := 47) hC dX6_stormWays_46 rfl ?_
        refine V_ixor (q := 48) hC dX6_stormWays_47 rfl ?_
        refine V_iand (q := 49) hC dX6_stormWays_48 rfl ?_
        refine V_if_ne (tgt := 74) (q := 52) hC (Rg_qand _ _) dX6_stormWays_49 (by decide) rfl (fun c13 => ?_) (fun c13 => ?_)
        · replace hf := (if_neg c13).symm.trans hf
          refine V_iconst (q := 75) hC dX6_stormWays_74 rfl ?_
          refine V_lsub [0, 1, 2, 3, 4, 5, 6] rfl ?_
          exact ih.2 hs h1 h2 h3 h4 h5 h6 (Rg_c rfl) hf
        · replace hf := (if_pos c13).symm.trans hf
          refine V_iload (k := 6) (q := 54) hC 6 rfl dX6_stormWays_52 rfl ?_
          refine V_iload_n (k := 1) (q := 55) hC 1 rfl dX6_stormWays_54 rfl ?_
          refine V_csi (st := []) (q := 58) hC (sX6_isIn l hG h6 h1 hs) (va_cwS 2 hC.2.2.2.2.1 gX6_stormWays_X6_isIn rfl rfl rfl (by decide +kernel) ⟨Nat.le_of_ble_eq_true rfl, Nat.le_of_ble_eq_true rfl⟩) rfl rfl (Nat.le_of_ble_eq_true rfl) dX6_stormWays_55 rfl ⟨Nat.zero_le _, Nat.zero_le _⟩ (fun hr14 _ => ?_)
          refine V_if_eq (tgt := 74) (q := 61) hC hr14 dX6_stormWays_58 (by decide) rfl (fun c15 => ?_) (fun c15 => ?_)
          · replace hf := (if_pos c15).symm.trans hf
            refine V_iconst (q := 75) hC dX6_stormWays_74 rfl ?_
            refine V_lsub [0, 1, 2, 3, 4, 5, 6] rfl ?_
            exact ih.2 hs h1 h2 h3 h4 h5 h6 (Rg_c rfl) hf
          · replace hf := (if_neg c15).symm.trans hf
            refine V_iload (k := 6) (q := 63) hC 6 rfl dX6_stormWays_61 rfl ?_
            refine V_iload_n (k := 2) (q := 64) hC 2 rfl dX6_stormWays_63 rfl ?_
            refine V_csi (st := []) (q := 67) hC (sX6_isIn l hG h6 h2 hs) (va_cwS 2 hC.2.2.2.2.1 gX6_stormWays_X6_isIn rfl rfl rfl (by decide +kernel) ⟨Nat.le_of_ble_eq_true rfl, Nat.le_of_ble_eq_true rfl⟩) rfl rfl (Nat.le_of_ble_eq_true rfl) dX6_stormWays_64 rfl ⟨Nat.zero_le _, Nat.zero_le _⟩ (fun hr16 _ => ?_)
            refine V_if_eq (tgt := 74) (q := 70) hC hr16 dX6_stormWays_67 (by decide) rfl (fun c17 => ?_) (fun c17 => ?_)
            · replace hf := (if_pos c17).symm.trans hf
              refine V_iconst (q := 75) hC dX6_stormWays_74 rfl ?_
              refine V_lsub [0, 1, 2, 3, 4, 5, 6] rfl ?_
              exact ih.2 hs h1 h2 h3 h4 h5 h6 (Rg_c rfl) hf
            · replace hf := (if_neg c17).symm.trans hf
              refine V_iconst (q := 71) hC dX6_stormWays_70 rfl ?_
              refine V_goto (tgt := 75) hC dX6_stormWays_71 (by decide) ?_
              refine V_lsub [0, 1, 2, 3, 4, 5, 6] rfl ?_
              exact ih.2 hs h1 h2 h3 h4 h5 h6 (Rg_c rfl) hf
    · intro σ hs v1 v2 v3 v4 v5 v6 w0 h1 h2 h3 h4 h5 h6 hw0 hf
      replace hf := (lX6_stormWays_35_e1 n σ v1 v2 v3 v4 v5 v6 w0).symm.trans hf
      refine V_istore (i := 7) (lv' := [(0, rf G 6 0), (1, iv v1), (2, iv v2), (3, iv v3), (4, iv v4), (5, iv v5), (6, iv v6), (7, iv w0)]) (q := 77) hC [1, 2, 3, 4, 5, 6, 7, 0] (by decide) rfl dX6_stormWays_75 rfl ?_
      refine V_iload (k := 7) (q := 79) hC 7 rfl dX6_stormWays_77 rfl ?_
      refine V_if_eq (tgt := 131) (q := 82) hC hw0 dX6_stormWays_79 (by decide) rfl (fun c18 => ?_) (fun c18 => ?_)
      · replace hf := (if_pos c18).symm.trans hf
        refine V_iinc (i := 6) (lv' := [(0, rf G 6 0), (1, iv v1), (2, iv v2), (3, iv v3), (4, iv v4), (5, iv v5), (6, iv (wr (v6 + 1))), (7, iv w0)]) (q := 134) hC 6 rfl [1, 2, 3, 4, 5, 6, 0, 7] (by decide) rfl dX6_stormWays_131 rfl ?_
        refine V_goto (tgt := 35) hC dX6_stormWays_134 (by decide) ?_
        refine V_lsub [0, 1, 2, 3, 4, 5, 6] rfl ?_
        exact ih.1 hs h1 h2 h3 h4 h5 (Rg_wr _) hf
      · replace hf := (if_neg c18).symm.trans hf
        refine V_aload_n (k := 0) (q := 83) hC 0 rfl dX6_stormWays_82 rfl ?_
        refine V_getf (T := TX6) (k := 6) (q := 86) hC uX6_stormWays_6 rfl iD6 rfl (by decide) kX6_stormWays_f46 rfl dX6_stormWays_83 rfl ?_
        refine V_iload_n (k := 1) (q := 87) hC 1 rfl dX6_stormWays_86 rfl ?_
        refine V_iload (k := 6) (q := 89) hC 6 rfl dX6_stormWays_87 rfl ?_
        obtain ⟨r19, σ20, hc21, hf⟩ := cl_some hf
        refine V_cvi (st := []) (q := 92) (x0 := r19) (σ0 := σ20) hC (sX2_reached l hG h1 h6 hs hc21) (cwV 2 hC.2.2.2.2.1 gX6_stormWays_X2_reached rfl rfl rfl (by decide +kernel) ⟨Nat.le_of_ble_eq_true rfl, Nat.le_of_ble_eq_true rfl⟩) ⟨_, rfl, rfl⟩ iD2 (fun _ => ⟨_, rfl⟩) rfl rfl (Nat.le_of_ble_eq_true rfl) dX6_stormWays_89 rfl ⟨Nat.zero_le _, Nat.zero_le _⟩ (fun hr22 hs23 => ?_)
        refine V_iload_n (k := 2) (q := 93) hC 2 rfl dX6_stormWays_92 rfl ?_
        refine V_csi (st := []) (q := 96) hC (sX6_isIn l hG hr22 h2 hs23) (va_cwS 2 hC.2.2.2.2.1 gX6_stormWays_X6_isIn rfl rfl rfl (by decide +kernel) ⟨Nat.le_of_ble_eq_true rfl, Nat.le_of_ble_eq_true rfl⟩) rfl rfl (Nat.le_of_ble_eq_true rfl) dX6_stormWays_93 rfl ⟨Nat.zero_le _, Nat.zero_le _⟩ (fun hr24 _ => ?_)
        refine V_if_eq (tgt := 131) (q := 99) hC hr24 dX6_stormWays_96 (by decide) rfl (fun c25 => ?_) (fun c25 => ?_)
        · replace hf := (if_pos c25).symm.trans hf
          refine V_iinc (i := 6) (lv' := [(0, rf G 6 0), (1, iv v1), (2, iv v2), (3, iv v3), (4, iv v4), (5, iv v5), (6, iv (wr (v6 + 1))), (7, iv w0)]) (q := 134) hC 6 rfl [1, 2, 3, 4, 5, 6, 0, 7] (by decide) rfl dX6_stormWays_131 rfl ?_
          refine V_goto (tgt := 35) hC dX6_stormWays_134 (by decide) ?_
          refine V_lsub [0, 1, 2, 3, 4, 5, 6] rfl ?_
          exact ih.1 hs23 h1 h2 h3 h4 h5 (Rg_wr _) hf
        · replace hf := (if_neg c25).symm.trans hf
          refine V_iload (k := 5) (q := 101) hC 5 rfl dX6_stormWays_99 rfl ?_
          refine V_bipush (q := 103) hC (by decide) dX6_stormWays_101 rfl ?_
          refine V_iload_n (k := 3) (q := 104) hC 3 rfl dX6_stormWays_103 rfl ?_
          refine V_isub (q := 105) hC dX6_stormWays_104 rfl ?_
          refine V_iload (k := 6) (q := 107) hC 6 rfl dX6_stormWays_105 rfl ?_
          refine V_csi (st := [iv (wr (10 - v3)), iv v5]) (q := 110) hC (sJ6_bitCount_0f7a4 l hG h6 hs23) (va_cwS 1 hC.2.2.2.2.1 gX6_stormWays_J6_bitCount_0f7a4 rfl rfl rfl (by decide +kernel) ⟨Nat.le_of_ble_eq_true rfl, Nat.le_of_ble_eq_true rfl⟩) rfl rfl (Nat.le_of_ble_eq_true rfl) dX6_stormWays_107 rfl ⟨Nat.zero_le _, Nat.zero_le _⟩ (fun hr26 _ => ?_)
          obtain ⟨r27, σ28, hc29, hf⟩ := cl_some hf
          refine V_csi (st := [iv v5]) (q := 113) (x0 := r27) (σ0 := σ28) hC (sX6_power l hG (Rg_wr _) hr26 hs23 hc29) (va_cwS 2 hC.2.2.2.2.1 gX6_stormWays_X6_power rfl rfl rfl (by decide +kernel) ⟨Nat.le_of_ble_eq_true rfl, Nat.le_of_ble_eq_true rfl⟩) rfl rfl (Nat.le_of_ble_eq_true rfl) dX6_stormWays_110 rfl ⟨Nat.zero_le _, Nat.zero_le _⟩ (fun hr30 hs31 => ?_)
          refine V_iload_n (k := 3) (q := 114) hC 3 rfl dX6_stormWays_113 rfl ?_
          refine V_iload (k := 4) (q := 116) hC 4 rfl dX6_stormWays_114 rfl ?_
          refine V_iload (k := 6) (q := 118) hC 6 rfl dX6_stormWays_116 rfl ?_
          refine V_iconst (q := 119) hC dX6_stormWays_118 rfl ?_
          refine V_ixor (q := 120) hC dX6_stormWays_119 rfl ?_
          refine V_iand (q := 121) hC dX6_stormWays_120 rfl ?_
          refine V_csi (st := [iv v3, iv r27, iv v5]) (q := 124) hC (sJ6_bitCount_0f7a4 l hG (Rg_qand _ _) hs31) (va_cwS 1 hC.2.2.2.2.1 gX6_stormWays_J6_bitCount_0f7a4 rfl rfl rfl (by decide +kernel) ⟨Nat.le_of_ble_eq_true rfl, Nat.le_of_ble_eq_true rfl⟩) rfl rfl (Nat.le_of_ble_eq_true rfl) dX6_stormWays_121 rfl ⟨Nat.zero_le _, Nat.zero_le _⟩ (fun hr32 _ => ?_)
          obtain ⟨r33, σ34, hc35, hf⟩ := cl_some hf
          refine V_csi (st := [iv r27, iv v5]) (q := 127) (x0 := r33) (σ0 := σ34) hC (sX6_power l hG h3 hr32 hs31 hc35) (va_cwS 2 hC.2.2.2.2.1 gX6_stormWays_X6_power rfl rfl rfl (by decide +kernel) ⟨Nat.le_of_ble_eq_true rfl, Nat.le_of_ble_eq_true rfl⟩) rfl rfl (Nat.le_of_ble_eq_true rfl) dX6_stormWays_124 rfl ⟨Nat.zero_le _, Nat.zero_le _⟩ (fun hr36 hs37 => ?_)
          refine V_imul (q := 128) hC dX6_stormWays_127 rfl ?_
          refine V_iadd (q := 129) hC dX6_stormWays_128 rfl ?_
          refine V_istore (i := 5) (lv' := [(0, rf G 6 0), (1, iv v1), (2, iv v2), (3, iv v3), (4, iv v4), (5, iv (wr (v5 + (wr (r27 * r33))))), (6, iv v6), (7, iv w0)]) (q := 131) hC [1, 2, 3, 4, 5, 0, 6, 7] (by decide) rfl dX6_stormWays_129 rfl ?_
          refine V_iinc (i := 6) (lv' := [(0, rf G 6 0), (1, iv v1), (2, iv v2), (3, iv v3), (4, iv v4), (5, iv (wr (v5 + (wr (r27 * r33))))), (6, iv (wr (v6 + 1))), (7, iv w0)]) (q := 134) hC 6 rfl [1, 2, 3, 4, 5, 6, 0, 7] (by decide) rfl dX6_stormWays_131 rfl ?_
          refine V_goto (tgt := 35) hC dX6_stormWays_134 (by decide) ?_
          refine V_lsub [0, 1, 2, 3, 4, 5, 6] rfl ?_
          exact ih.1 hs37 h1 h2 h3 h4 (Rg_wr _) (Rg_wr _) hf
set_option maxHeartbeats 4000000 in
set_option maxRecDepth 100000 in
theorem sX6_stormWays (l : Launch) {G : GT} (hG : GI G) {v1 : Int} {v2 : Int} {v3 : Int} (h1 : Rg v1) (h2 : Rg v2) (h3 : Rg v3) {σ : Hp} (hs : RgS σ) {r0 : Int × Hp} (hf : fX6_stormWays σ v1 v2 v3 = some r0) : Cti l G yX6_stormWays wsX6_stormWays rmX6_stormWays [rf G 6 0, iv v1, iv v2, iv v3] σ r0.1 r0.2 := by
  unfold fX6_stormWays at hf
  refine Cti_start (lv := [(0, rf G 6 0), (1, iv v1), (2, iv v2), (3, iv v3)]) (ret := (some .int)) (by decide +kernel) rfl hG (Nat.le_of_ble_eq_true rfl) rfl (fun p e s m args below meth c hC hr hlk => ?_)
  refine V_aload_n (k := 0) (q := 1) hC 0 rfl dX6_stormWays_0 rfl ?_
  refine V_getf (T := TX6) (k := 6) (q := 4) hC uX6_stormWays_6 rfl iD6 rfl (by decide) kX6_stormWays_f46 rfl dX6_stormWays_1 rfl ?_
  refine V_aload_n (k := 0) (q := 5) hC 0 rfl dX6_stormWays_4 rfl ?_
  refine V_getf (T := TX6) (k := 2) (q := 8) hC uX6_stormWays_6 rfl iD6 rfl (by decide) kX6_stormWays_f25 rfl dX6_stormWays_5 rfl ?_
  obtain ⟨r1, σ2, hc3, hf⟩ := cl_some hf
  refine V_cvv (st := []) (q := 11) (σ0 := σ2) hC (sX2_lookAt l hG (by decide) hs hc3) (cwV 1 hC.2.2.2.2.1 gX6_stormWays_X2_lookAt rfl rfl rfl (by decide +kernel) ⟨Nat.le_of_ble_eq_true rfl, Nat.le_of_ble_eq_true rfl⟩) ⟨_, rfl, rfl⟩ iD2 (fun _ => ⟨_, rfl⟩) rfl rfl (Nat.le_of_ble_eq_true rfl) dX6_stormWays_8 rfl ⟨Nat.zero_le _, Nat.zero_le _⟩ (fun hs5 => ?_)
  refine V_aload_n (k := 0) (q := 12) hC 0 rfl dX6_stormWays_11 rfl ?_
  refine V_getf (T := TX6) (k := 2) (q := 15) hC uX6_stormWays_6 rfl iD6 rfl (by decide) kX6_stormWays_f25 rfl dX6_stormWays_12 rfl ?_
  refine V_aload_n (k := 0) (q := 16) hC 0 rfl dX6_stormWays_15 rfl ?_
  refine V_getf (T := TX6) (k := 2) (q := 19) hC uX6_stormWays_6 rfl iD6 rfl (by decide) kX6_stormWays_f25 rfl dX6_stormWays_16 rfl ?_
  refine V_getf (T := TX5) (k := 3) (q := 22) hC uX6_stormWays_5 rfl (iM5 (by decide)) rfl (by decide) kX6_stormWays_f203 rfl dX6_stormWays_19 rfl ?_
  refine V_iload_n (k := 1) (q := 23) hC 1 rfl dX6_stormWays_22 rfl ?_
  obtain ⟨g6, hf⟩ := gd_some hf
  refine V_iald (n := 8) (q := 24) hC (iM16 (by decide)) rfl g6 h1 dX6_stormWays_23 rfl ?_
  obtain ⟨r7, σ8, hc9, hf⟩ := cl_some hf
  refine V_cvi (st := []) (q := 27) (x0 := r7) (σ0 := σ8) hC (sX5_readableOn l hG (by decide) (hs5 _ _ _) hs5 hc9) (cwV 1 hC.2.2.2.2.1 gX6_stormWays_X5_readableOn rfl rfl rfl (by decide +kernel) ⟨Nat.le_of_ble_eq_true rfl, Nat.le_of_ble_eq_true rfl⟩) ⟨_, rfl, rfl⟩ (iM5 (by decide)) (fun _ => ⟨_, rfl⟩) rfl rfl (Nat.le_of_ble_eq_true rfl) dX6_stormWays_24 rfl ⟨Nat.zero_le _, Nat.zero_le _⟩ (fun hr10 hs11 => ?_)
  refine V_istore (i := 4) (lv' := [(0, rf G 6 0), (1, iv v1), (2, iv v2), (3, iv v3), (4, iv r7)]) (q := 29) hC [1, 2, 3, 4, 0] (by decide) rfl dX6_stormWays_27 rfl ?_
  refine V_iconst (q := 30) hC dX6_stormWays_29 rfl ?_
  refine V_istore (i := 5) (lv' := [(0, rf G 6 0), (1, iv v1), (2, iv v2), (3, iv v3), (4, iv r7), (5, iv 0)]) (q := 32) hC [1, 2, 3, 4, 5, 0] (by decide) rfl dX6_stormWays_30 rfl ?_
  refine V_iconst (q := 33) hC dX6_stormWays_32 rfl ?_
  refine V_istore (i := 6) (lv' := [(0, rf G 6 0), (1, iv v1), (2, iv v2), (3, iv v3), (4, iv r7), (5, iv 0), (6, iv 0)]) (q := 35) hC [1, 2, 3, 4, 5, 6, 0] (by decide) rfl dX6_stormWays_33 rfl ?_
  refine V_lsub [0, 1, 2, 3, 4, 5, 6] rfl ?_
  exact (tlX6_stormWays_35 hG hC hr hlk FU).1 hs11 h1 h2 h3 hr10 (Rg_c rfl) (Rg_c rfl) hf
/-! X6_greatestDivisor -/
theorem kX6_greatestDivisor_m257 : Cond.methodLink RX6 257 Lib.Math.max.name ∈ wsX6_greatestDivisor := by decide +kernel
theorem kX6_greatestDivisor_smax : Cond.static Lib.Math.max.name ∈ wsX6_greatestDivisor := by decide +kernel
theorem kX6_greatestDivisor_iMath : Cond.initialized "java/lang/Math" ∈ wsX6_greatestDivisor := by decide +kernel
theorem kX6_greatestDivisor_kmax : Cond.code Lib.Math.max.name Lib.Math.max.code 2 (some .int) ∈ wsX6_greatestDivisor := by decide +kernel
theorem kX6_greatestDivisor_m321 : Cond.methodLink RX6 321 Lib.Math.min.name ∈ wsX6_greatestDivisor := by decide +kernel
theorem kX6_greatestDivisor_smin : Cond.static Lib.Math.min.name ∈ wsX6_greatestDivisor := by decide +kernel
theorem kX6_greatestDivisor_kmin : Cond.code Lib.Math.min.name Lib.Math.min.code 2 (some .int) ∈ wsX6_greatestDivisor := by decide +kernel
abbrev rmX6_greatestDivisor : Room := { frames := 1, cells := 0, slots := 0, locals := 21 }
set_option maxHeartbeats 4000000 in
set_option maxRecDepth 100000 in
theorem tlX6_greatestDivisor_15 {p : Program} {l : Launch} {e : Env} {s : State} {m : MethodId} {args : Array Value} {below : List Frame} {meth : Method} {c : Code} {G : GT} (hG : GI G) (hC : CX p s m args c cX6_greatestDivisor 6 RX6 wsX6_greatestDivisor G (AA G)) (hr : meth.sig.returnType = (some .int)) (hlk : meth.locks = false) {r0 : Int × Hp} : ∀ n : Nat, (∀ {σ : Hp} (hs : RgS σ) {v2 : Int} {v3 : Int} {v4 : Int} (h2 : Rg v2) (h3 : Rg v3) (h4 : Rg v4) (hf : lX6_greatestDivisor_15 n σ v2 v3 v4 = some r0), VV p l e (headSpec wsX6_greatestDivisor rmX6_greatestDivisor).room s m args below meth c (MQ below (QI G r0.1 r0.2) args s 0 0 (AA G)) G (AA G) 0 0 6 σ 15 [(2, iv v2), (3, iv v3), (4, iv v4)] []) := by
  intro n
  induction n with
  | zero =>
    exact by intro σ hs v2 v3 v4 h2 h3 h4 hf; exact absurd (show (none : Option (Int × Hp)) = some r0 from hf) (fun z => by cases z)
  | succ n ih =>
    intro σ hs v2 v3 v4 h2 h3 h4 hf
    replace hf := (lX6_greatestDivisor_15_e0 n σ v2 v3 v4).symm.trans hf
    refine V_iload (k := 4) (q := 17) hC 2 rfl dX6_greatestDivisor_15 rfl ?_
    refine V_bipush (q := 19) hC (by decide) dX6_greatestDivisor_17 rfl ?_
    refine V_icmp_ge (tgt := 42) (q := 22) hC h4 (Rg_c rfl) dX6_greatestDivisor_19 (by decide) rfl (fun c1 => ?_) (fun c1 => ?_)
    · replace hf := (if_pos c1).symm.trans hf
      refine V_iload_n (k := 2) (q := 43) hC 0 rfl dX6_greatestDivisor_42 rfl ?_
      refine V_iconst (q := 44) hC dX6_greatestDivisor_43 rfl ?_
      refine V_mmax (q := 47) hC h2 (Rg_c rfl) kX6_greatestDivisor_m257 kX6_greatestDivisor_smax kX6_greatestDivisor_iMath kX6_greatestDivisor_kmax ⟨Nat.le_of_ble_eq_true rfl, Nat.le_of_ble_eq_true rfl, Nat.zero_le _, Nat.zero_le _⟩ dX6_greatestDivisor_44 rfl ?_
      exact V_iret hC hr hlk (re_1 hf) (re_2 hf) (Rg_qmax h2 (Rg_c rfl)) hs dX6_greatestDivisor_47
    · replace hf := (if_neg c1).symm.trans hf
      refine V_iload_n (k := 3) (q := 23) hC 1 rfl dX6_greatestDivisor_22 rfl ?_
      refine V_if_le (tgt := 42) (q := 26) hC h3 dX6_greatestDivisor_23 (by decide) rfl (fun c2 => ?_) (fun c2 => ?_)
      · replace hf := (if_pos c2).symm.trans hf
        refine V_iload_n (k := 2) (q := 43) hC 0 rfl dX6_greatestDivisor_42 rfl ?_
        refine V_iconst (q := 44) hC dX6_greatestDivisor_43 rfl ?_
        refine V_mmax (q := 47) hC h2 (Rg_c rfl) kX6_greatestDivisor_m257 kX6_greatestDivisor_smax kX6_greatestDivisor_iMath kX6_greatestDivisor_kmax ⟨Nat.le_of_ble_eq_true rfl, Nat.le_of_ble_eq_true rfl, Nat.zero_le _, Nat.zero_le _⟩ dX6_greatestDivisor_44 rfl ?_
        exact V_iret hC hr hlk (re_1 hf) (re_2 hf) (Rg_qmax h2 (Rg_c rfl)) hs dX6_greatestDivisor_47
      · replace hf := (if_neg c2).symm.trans hf
        refine V_iload_n (k := 2) (q := 27) hC 0 rfl dX6_greatestDivisor_26 rfl ?_
        refine V_iload_n (k := 3) (q := 28) hC 1 rfl dX6_greatestDivisor_27 rfl ?_
        obtain ⟨g3, hf⟩ := gd_some hf
        refine V_irem (q := 29) hC h2 h3 g3 dX6_greatestDivisor_28 rfl ?_
        refine V_istore (i := 5) (lv' := [(2, iv v2), (3, iv v3), (4, iv v4), (5, iv (qrem v2 v3))]) (q := 31) hC [1, 2, 3, 0] (by decide) rfl dX6_greatestDivisor_29 rfl ?_
        refine V_iload_n (k := 3) (q := 32) hC 1 rfl dX6_greatestDivisor_31 rfl ?_
        refine V_istore_n (k := 2) (i := 2) (lv' := [(2, iv v3), (3, iv v3), (4, iv v4), (5, iv (qrem v2 v3))]) (q := 33) hC [0, 1, 2, 3] rfl (by decide) rfl dX6_greatestDivisor_32 rfl ?_
        refine V_iload (k := 5) (q := 35) hC 3 rfl dX6_greatestDivisor_33 rfl ?_
        refine V_istore_n (k := 3) (i := 3) (lv' := [(2, iv v3), (3, iv (qrem v2 v3)), (4, iv v4), (5, iv (qrem v2 v3))]) (q := 36) hC [1, 0, 2, 3] rfl (by decide) rfl dX6_greatestDivisor_35 rfl ?_
        refine V_iinc (i := 4) (lv' := [(2, iv v3), (3, iv (qrem v2 v3)), (4, iv (wr (v4 + 1))), (5, iv (qrem v2 v3))]) (q := 39) hC 2 rfl [1, 2, 0, 3] (by decide) rfl dX6_greatestDivisor_36 rfl ?_
        refine V_goto (tgt := 15) hC dX6_greatestDivisor_39 (by decide) ?_
        refine V_lsub [0, 1, 2] rfl ?_
        exact ih hs h3 (Rg_qrem _ _) (Rg_wr _) hf
set_option maxHeartbeats 4000000 in
set_option maxRecDepth 100000 in
theorem sX6_greatestDivisor (l : Launch) {G : GT} (hG : GI G) {v0 : Int} {v1 : Int} (h0 : Rg v0) (h1 : Rg v1) {σ : Hp} (hs : RgS σ) {r0 : Int × Hp} (hf : fX6_greatestDivisor σ v0 v1 = some r0) : Cti l G yX6_greatestDivisor wsX6_greatestDivisor rmX6_greatestDivisor [iv v0, iv v1] σ r0.1 r0.2 := by
  unfold fX6_greatestDivisor at hf
  refine Cti_start (lv := [(0, iv v0), (1, iv v1)]) (ret := (some .int)) (by decide +kernel) rfl hG (Nat.le_of_ble_eq_true rfl) rfl (fun p e s m args below meth c hC hr hlk => ?_)
  refine V_iload_n (k := 0) (q := 1) hC 0 rfl dX6_greatestDivisor_0 rfl ?_
  refine V_iload_n (k := 1) (q := 2) hC 1 rfl dX6_greatestDivisor_1 rfl ?_
  refine V_mmax (q := 5) hC h0 h1 kX6_greatestDivisor_m257 kX6_greatestDivisor_smax kX6_greatestDivisor_iMath kX6_greatestDivisor_kmax ⟨Nat.le_of_ble_eq_true rfl, Nat.le_of_ble_eq_true rfl, Nat.zero_le _, Nat.zero_le _⟩ dX6_greatestDivisor_2 rfl ?_
  refine V_istore_n (k := 2) (i := 2) (lv' := [(0, iv v0), (1, iv v1), (2, iv (qmax v0 v1))]) (q := 6) hC [1, 2, 0] rfl (by decide) rfl dX6_greatestDivisor_5 rfl ?_
  refine V_iload_n (k := 0) (q := 7) hC 0 rfl dX6_greatestDivisor_6 rfl ?_
  refine V_iload_n (k := 1) (q := 8) hC 1 rfl dX6_greatestDivisor_7 rfl ?_
  refine V_mmin (q := 11) hC h0 h1 kX6_greatestDivisor_m321 kX6_greatestDivisor_smin kX6_greatestDivisor_iMath kX6_greatestDivisor_kmin ⟨Nat.le_of_ble_eq_true rfl, Nat.le_of_ble_eq_true rfl, Nat.zero_le _, Nat.zero_le _⟩ dX6_greatestDivisor_8 rfl ?_
  refine V_istore_n (k := 3) (i := 3) (lv' := [(0, iv v0), (1, iv v1), (2, iv (qmax v0 v1)), (3, iv (qmin v0 v1))]) (q := 12) hC [1, 2, 3, 0] rfl (by decide) rfl dX6_greatestDivisor_11 rfl ?_
  refine V_iconst (q := 13) hC dX6_greatestDivisor_12 rfl ?_
  refine V_istore (i := 4) (lv' := [(0, iv v0), (1, iv v1), (2, iv (qmax v0 v1)), (3, iv (qmin v0 v1)), (4, iv 0)]) (q := 15) hC [1, 2, 3, 4, 0] (by decide) rfl dX6_greatestDivisor_13 rfl ?_
  refine V_lsub [2, 3, 4] rfl ?_
  exact (tlX6_greatestDivisor_15 hG hC hr hlk FU) hs (Rg_qmax h0 h1) (Rg_qmin h0 h1) (Rg_c rfl) hf
/-! X6_storm -/
theorem kX6_storm_c62 : Cond.constant RX6 62 (-1000001) ∈ wsX6_storm := by decide +kernel
theorem kX6_storm_f25 : Cond.fieldLink RX6 25 "BarkNames" "now" "LBarkNames$Wood;" ∈ wsX6_storm := by decide +kernel
theorem uX6_storm_6 : ∀ w ∈ u_ws RX6 TX6 10, w ∈ wsX6_storm := by decide +kernel
theorem kX6_storm_f203 : Cond.fieldLink RX6 203 "BarkNames$Wood" "treeOf" "[I" ∈ wsX6_storm := by decide +kernel
theorem uX6_storm_5 : ∀ w ∈ u_ws RX5 TX5 12, w ∈ wsX6_storm := by decide +kernel
abbrev rmX6_storm : Room := { frames := 6, cells := 0, slots := 0, locals := 138 }
set_option maxHeartbeats 4000000 in
set_option maxRecDepth 100000 in
theorem sX6_storm (l : Launch) {G : GT} (hG : GI G) {v1 : Int} {v2 : Int} {v3 : Int} {v4 : Int} (h1 : Rg v1) (h2 : Rg v2) (h3 : Rg v3) (h4 : Rg v4) {σ : Hp} (hs : RgS σ) {r0 : Int × Hp} (hf : fX6_storm σ v1 v2 v3 v4 = some r0) : Cti l G yX6_storm wsX6_storm rmX6_storm [rf G 6 0, iv v1, iv v2, iv v3, iv v4] σ r0.1 r0.2 := by
  unfold fX6_storm at hf
  refine Cti_start (lv := [(0, rf G 6 0), (1, iv v1), (2, iv v2), (3, iv v3), (4, iv v4)]) (ret := (some .int)) (by decide +kernel) rfl hG (Nat.le_of_ble_eq_true rfl) rfl (fun p e s m args below meth c hC hr hlk => ?_)
  refine V_aload_n (k := 0) (q := 1) hC 0 rfl dX6_storm_0 rfl ?_
  refine V_iload_n (k := 1) (q := 2) hC 1 rfl dX6_storm_1 rfl ?_
  refine V_iload_n (k := 2) (q := 3) hC 2 rfl dX6_storm_2 rfl ?_
  obtain ⟨r1, σ2, hc3, hf⟩ := cl_some hf
  refine V_cvi (st := []) (q := 6) (x0 := r1) (σ0 := σ2) hC (sX6_isPair l hG h1 h2 hs hc3) (cwV 2 hC.2.2.2.2.1 gX6_storm_X6_isPair rfl rfl rfl (by decide +kernel) ⟨Nat.le_of_ble_eq_true rfl, Nat.le_of_ble_eq_true rfl⟩) ⟨_, rfl, rfl⟩ iD6 (fun _ => ⟨_, rfl⟩) rfl rfl (Nat.le_of_ble_eq_true rfl) dX6_storm_3 rfl ⟨Nat.zero_le _, Nat.zero_le _⟩ (fun hr4 hs5 => ?_)
  refine V_if_eq (tgt := 27) (q := 9) hC hr4 dX6_storm_6 (by decide) rfl (fun c6 => ?_) (fun c6 => ?_)
  · replace hf := (if_pos c6).symm.trans hf
    refine V_ldc (q := 29) (n := (-1000001)) hC (by decide) kX6_storm_c62 dX6_storm_27 rfl ?_
    exact V_iret hC hr hlk (re_1 hf) (re_2 hf) (Rg_c rfl) hs5 dX6_storm_29
  · replace hf := (if_neg c6).symm.trans hf
    refine V_iload_n (k := 3) (q := 10) hC 3 rfl dX6_storm_9 rfl ?_
    refine V_if_lt (tgt := 27) (q := 13) hC h3 dX6_storm_10 (by decide) rfl (fun c7 => ?_) (fun c7 => ?_)
    · replace hf := (if_pos c7).symm.trans hf
      refine V_ldc (q := 29) (n := (-1000001)) hC (by decide) kX6_storm_c62 dX6_storm_27 rfl ?_
      exact V_iret hC hr hlk (re_1 hf) (re_2 hf) (Rg_c rfl) hs5 dX6_storm_29
    · replace hf := (if_neg c7).symm.trans hf
      refine V_iload_n (k := 3) (q := 14) hC 3 rfl dX6_storm_13 rfl ?_
      refine V_bipush (q := 16) hC (by decide) dX6_storm_14 rfl ?_
      refine V_icmp_gt (tgt := 27) (q := 19) hC h3 (Rg_c rfl) dX6_storm_16 (by decide) rfl (fun c8 => ?_) (fun c8 => ?_)
      · replace hf := (if_pos c8).symm.trans hf
        refine V_ldc (q := 29) (n := (-1000001)) hC (by decide) kX6_storm_c62 dX6_storm_27 rfl ?_
        exact V_iret hC hr hlk (re_1 hf) (re_2 hf) (Rg_c rfl) hs5 dX6_storm_29
      · replace hf := (if_neg c8).symm.trans hf
        refine V_iload (k := 4) (q := 21) hC 4 rfl dX6_storm_19 rfl ?_
        refine V_csi (st := []) (q := 24) hC (sX6_isChoice l hG h4 hs5) (va_cwS 1 hC.2.2.2.2.1 gX6_storm_X6_isChoice rfl rfl rfl (by decide +kernel) ⟨Nat.le_of_ble_eq_true rfl, Nat.le_of_ble_eq_true rfl⟩) rfl rfl (Nat.le_of_ble_eq_true rfl) dX6_storm_21 rfl ⟨Nat.zero_le _, Nat.zero_le _⟩ (fun hr9 _ => ?_)
        refine V_if_ne (tgt := 30) (q := 27) hC hr9 dX6_storm_24 (by decide) rfl (fun c10 => ?_) (fun c10 => ?_)
        · replace hf := (if_neg c10).symm.trans hf
          refine V_aload_n (k := 0) (q := 31) hC 0 rfl dX6_storm_30 rfl ?_
          refine V_iload_n (k := 1) (q := 32) hC 1 rfl dX6_storm_31 rfl ?_
          refine V_iload_n (k := 2) (q := 33) hC 2 rfl dX6_storm_32 rfl ?_
          refine V_iload_n (k := 3) (q := 34) hC 3 rfl dX6_storm_33 rfl ?_
          obtain ⟨r11, σ12, hc13, hf⟩ := cl_some hf
          refine V_cvi (st := []) (q := 37) (x0 := r11) (σ0 := σ12) hC (sX6_stormWays l hG h1 h2 h3 hs5 hc13) (cwV 3 hC.2.2.2.2.1 gX6_storm_X6_stormWays rfl rfl rfl (by decide +kernel) ⟨Nat.le_of_ble_eq_true rfl, Nat.le_of_ble_eq_true rfl⟩) ⟨_, rfl, rfl⟩ iD6 (fun _ => ⟨_, rfl⟩) rfl rfl (Nat.le_of_ble_eq_true rfl) dX6_storm_34 rfl ⟨Nat.zero_le _, Nat.zero_le _⟩ (fun hr14 hs15 => ?_)
          refine V_istore (i := 5) (lv' := [(0, rf G 6 0), (1, iv v1), (2, iv v2), (3, iv v3), (4, iv v4), (5, iv r11)]) (q := 39) hC [1, 2, 3, 4, 5, 0] (by decide) rfl dX6_storm_37 rfl ?_
          refine V_bipush (q := 41) hC (by decide) dX6_storm_39 rfl ?_
          refine V_aload_n (k := 0) (q := 42) hC 0 rfl dX6_storm_41 rfl ?_
          refine V_getf (T := TX6) (k := 2) (q := 45) hC uX6_storm_6 rfl iD6 rfl (by decide) kX6_storm_f25 rfl dX6_storm_42 rfl ?_
          refine V_aload_n (k := 0) (q := 46) hC 0 rfl dX6_storm_45 rfl ?_
          refine V_getf (T := TX6) (k := 2) (q := 49) hC uX6_storm_6 rfl iD6 rfl (by decide) kX6_storm_f25 rfl dX6_storm_46 rfl ?_
          refine V_getf (T := TX5) (k := 3) (q := 52) hC uX6_storm_5 rfl (iM5 (by decide)) rfl (by decide) kX6_storm_f203 rfl dX6_storm_49 rfl ?_
          refine V_iload_n (k := 1) (q := 53) hC 1 rfl dX6_storm_52 rfl ?_
          obtain ⟨g16, hf⟩ := gd_some hf
          refine V_iald (n := 8) (q := 54) hC (iM16 (by decide)) rfl g16 h1 dX6_storm_53 rfl ?_
          obtain ⟨r17, σ18, hc19, hf⟩ := cl_some hf
          refine V_cvi (st := [iv 10]) (q := 57) (x0 := r17) (σ0 := σ18) hC (sX5_readableOn l hG (by decide) (hs15 _ _ _) hs15 hc19) (cwV 1 hC.2.2.2.2.1 gX6_storm_X5_readableOn rfl rfl rfl (by decide +kernel) ⟨Nat.le_of_ble_eq_true rfl, Nat.le_of_ble_eq_true rfl⟩) ⟨_, rfl, rfl⟩ (iM5 (by decide)) (fun _ => ⟨_, rfl⟩) rfl rfl (Nat.le_of_ble_eq_true rfl) dX6_storm_54 rfl ⟨Nat.zero_le _, Nat.zero_le _⟩ (fun hr20 hs21 => ?_)
          refine V_csi (st := [iv 10]) (q := 60) hC (sJ6_bitCount_0f7a4 l hG hr20 hs21) (va_cwS 1 hC.2.2.2.2.1 gX6_storm_J6_bitCount_0f7a4 rfl rfl rfl (by decide +kernel) ⟨Nat.le_of_ble_eq_true rfl, Nat.le_of_ble_eq_true rfl⟩) rfl rfl (Nat.le_of_ble_eq_true rfl) dX6_storm_57 rfl ⟨Nat.zero_le _, Nat.zero_le _⟩ (fun hr22 _ => ?_)
          obtain ⟨r23, σ24, hc25, hf⟩ := cl_some hf
          refine V_csi (st := []) (q := 63) (x0 := r23) (σ0 := σ24) hC (sX6_power l hG (Rg_c rfl) hr22 hs21 hc25) (va_cwS 2 hC.2.2.2.2.1 gX6_storm_X6_power rfl rfl rfl (by decide +kernel) ⟨Nat.le_of_ble_eq_true rfl, Nat.le_of_ble_eq_true rfl⟩) rfl rfl (Nat.le_of_ble_eq_true rfl) dX6_storm_60 rfl ⟨Nat.zero_le _, Nat.zero_le _⟩ (fun hr26 hs27 => ?_)
          refine V_istore (i := 6) (lv' := [(0, rf G 6 0), (1, iv v1), (2, iv v2), (3, iv v3), (4, iv v4), (5, iv r11), (6, iv r23)]) (q := 65) hC [1, 2, 3, 4, 5, 6, 0] (by decide) rfl dX6_storm_63 rfl ?_
          refine V_iload (k := 5) (q := 67) hC 5 rfl dX6_storm_65 rfl ?_
          refine V_iload (k := 6) (q := 69) hC 6 rfl dX6_storm_67 rfl ?_
          obtain ⟨r28, σ29, hc30, hf⟩ := cl_some hf
          refine V_csi (st := []) (q := 72) (x0 := r28) (σ0 := σ29) hC (sX6_greatestDivisor l hG hr14 hr26 hs27 hc30) (va_cwS 2 hC.2.2.2.2.1 gX6_storm_X6_greatestDivisor rfl rfl rfl (by decide +kernel) ⟨Nat.le_of_ble_eq_true rfl, Nat.le_of_ble_eq_true rfl⟩) rfl rfl (Nat.le_of_ble_eq_true rfl) dX6_storm_69 rfl ⟨Nat.zero_le _, Nat.zero_le _⟩ (fun hr31 hs32 => ?_)
          refine V_istore (i := 7) (lv' := [(0, rf G 6 0), (1, iv v1), (2, iv v2), (3, iv v3), (4, iv v4), (5, iv r11), (6, iv r23), (7, iv r28)]) (q := 74) hC [1, 2, 3, 4, 5, 6, 7, 0] (by decide) rfl dX6_storm_72 rfl ?_
          refine V_iload (k := 4) (q := 76) hC 4 rfl dX6_storm_74 rfl ?_
          refine V_if_ne (tgt := 84) (q := 79) hC h4 dX6_storm_76 (by decide) rfl (fun c33 => ?_) (fun c33 => ?_)
          · replace hf := (if_neg c33).symm.trans hf
            refine V_iload (k := 6) (q := 86) hC 6 rfl dX6_storm_84 rfl ?_
            refine V_iload (k := 7) (q := 88) hC 7 rfl dX6_storm_86 rfl ?_
            obtain ⟨g34, hf⟩ := gd_some hf
            refine V_idiv (q := 89) hC hr26 hr31 g34 dX6_storm_88 rfl ?_
            exact V_iret hC hr hlk (re_1 hf) (re_2 hf) (Rg_qdiv _ _) hs32 dX6_storm_89
          · replace hf := (if_pos c33).symm.trans hf
            refine V_iload (k := 5) (q := 81) hC 5 rfl dX6_storm_79 rfl ?_
            refine V_goto (tgt := 86) hC dX6_storm_81 (by decide) ?_
            refine V_iload (k := 7) (q := 88) hC 7 rfl dX6_storm_86 rfl ?_
            obtain ⟨g35, hf⟩ := gd_some hf
            refine V_idiv (q := 89) hC hr14 hr31 g35 dX6_storm_88 rfl ?_
            exact V_iret hC hr hlk (re_1 hf) (re_2 hf) (Rg_qdiv _ _) hs32 dX6_storm_89
        · replace hf := (if_pos c10).symm.trans hf
          refine V_ldc (q := 29) (n := (-1000001)) hC (by decide) kX6_storm_c62 dX6_storm_27 rfl ?_
          exact V_iret hC hr hlk (re_1 hf) (re_2 hf) (Rg_c rfl) hs5 dX6_storm_29
/-! X6_image -/
theorem kX6_image_f25 : Cond.fieldLink RX6 25 "BarkNames" "now" "LBarkNames$Wood;" ∈ wsX6_image := by decide +kernel
theorem uX6_image_6 : ∀ w ∈ u_ws RX6 TX6 10, w ∈ wsX6_image := by decide +kernel
theorem kX6_image_f137 : Cond.fieldLink RX6 137 "BarkNames$Wood" "told" "Z" ∈ wsX6_image := by decide +kernel
theorem uX6_image_5 : ∀ w ∈ u_ws RX5 TX5 12, w ∈ wsX6_image := by decide +kernel
theorem kX6_image_f32 : Cond.fieldLink RX6 32 "BarkNames" "images" "[LBarkNames$Wood;" ∈ wsX6_image := by decide +kernel
theorem kX6_image_c140 : Cond.constant RX6 140 (-1000002) ∈ wsX6_image := by decide +kernel
theorem kX6_image_c62 : Cond.constant RX6 62 (-1000001) ∈ wsX6_image := by decide +kernel
abbrev rmX6_image : Room := { frames := 2, cells := 0, slots := 0, locals := 47 }
set_option maxHeartbeats 4000000 in
set_option maxRecDepth 100000 in
theorem sX6_image (l : Launch) {G : GT} (hG : GI G) {v1 : Int} (h1 : Rg v1) {σ : Hp} (hs : RgS σ) {r0 : Int × Hp} (hf : fX6_image σ v1 = some r0) : Cti l G yX6_image wsX6_image rmX6_image [rf G 6 0, iv v1] σ r0.1 r0.2 := by
  unfold fX6_image at hf
  refine Cti_start (lv := [(0, rf G 6 0), (1, iv v1)]) (ret := (some .int)) (by decide +kernel) rfl hG (Nat.le_of_ble_eq_true rfl) rfl (fun p e s m args below meth c hC hr hlk => ?_)
  refine V_iload_n (k := 1) (q := 1) hC 1 rfl dX6_image_0 rfl ?_
  refine V_iconst (q := 2) hC dX6_image_1 rfl ?_
  refine V_csi (st := []) (q := 5) hC (sX6_isBelow l hG h1 (Rg_c rfl) hs) (va_cwS 2 hC.2.2.2.2.1 gX6_image_X6_isBelow rfl rfl rfl (by decide +kernel) ⟨Nat.le_of_ble_eq_true rfl, Nat.le_of_ble_eq_true rfl⟩) rfl rfl (Nat.le_of_ble_eq_true rfl) dX6_image_2 rfl ⟨Nat.zero_le _, Nat.zero_le _⟩ (fun hr1 _ => ?_)
  refine V_if_ne (tgt := 11) (q := 8) hC hr1 dX6_image_5 (by decide) rfl (fun c2 => ?_) (fun c2 => ?_)
  · replace hf := (if_neg c2).symm.trans hf
    refine V_aload_n (k := 0) (q := 12) hC 0 rfl dX6_image_11 rfl ?_
    refine V_getf (T := TX6) (k := 2) (q := 15) hC uX6_image_6 rfl iD6 rfl (by decide) kX6_image_f25 rfl dX6_image_12 rfl ?_
    refine V_getf (T := TX5) (k := 7) (q := 18) hC uX6_image_5 rfl (iM5 (by decide)) rfl (by decide) kX6_image_f137 rfl dX6_image_15 rfl ?_
    refine V_if_ne (tgt := 24) (q := 21) hC (hs _ _ _) dX6_image_18 (by decide) rfl (fun c3 => ?_) (fun c3 => ?_)
    · replace hf := (if_neg c3).symm.trans hf
      refine V_aload_n (k := 0) (q := 25) hC 0 rfl dX6_image_24 rfl ?_
      refine V_getf (T := TX6) (k := 4) (q := 28) hC uX6_image_6 rfl iD6 rfl (by decide) kX6_image_f32 rfl dX6_image_25 rfl ?_
      refine V_iload_n (k := 1) (q := 29) hC 1 rfl dX6_image_28 rfl ?_
      obtain ⟨g4, hf⟩ := gd_some hf
      refine V_aald21 (q := 30) hC g4 h1 dX6_image_29 rfl ?_
      have hj5 : (2 + v1.toNat) < 28 := by omega
      refine V_aload_n (k := 0) (q := 31) hC 0 rfl dX6_image_30 rfl ?_
      refine V_getf (T := TX6) (k := 2) (q := 34) hC uX6_image_6 rfl iD6 rfl (by decide) kX6_image_f25 rfl dX6_image_31 rfl ?_
      obtain ⟨r6, σ7, hc8, hf⟩ := cl_some hf
      refine V_cvv (st := []) (q := 37) (σ0 := σ7) hC (sX5_become l hG hj5 (by decide) hs hc8) (cwV 1 hC.2.2.2.2.1 gX6_image_X5_become rfl rfl rfl (by decide +kernel) ⟨Nat.le_of_ble_eq_true rfl, Nat.le_of_ble_eq_true rfl⟩) ⟨_, rfl, rfl⟩ (iM5 hj5) (fun _ => ⟨_, rfl⟩) rfl rfl (Nat.le_of_ble_eq_true rfl) dX6_image_34 rfl ⟨Nat.zero_le _, Nat.zero_le _⟩ (fun hs10 => ?_)
      refine V_iconst (q := 38) hC dX6_image_37 rfl ?_
      exact V_iret hC hr hlk (re_1 hf) (re_2 hf) (Rg_c rfl) hs10 dX6_image_38
    · replace hf := (if_pos c3).symm.trans hf
      refine V_ldc (q := 23) (n := (-1000002)) hC (by decide) kX6_image_c140 dX6_image_21 rfl ?_
      exact V_iret hC hr hlk (re_1 hf) (re_2 hf) (Rg_c rfl) hs dX6_image_23
  · replace hf := (if_pos c2).symm.trans hf
    refine V_ldc (q := 10) (n := (-1000001)) hC (by decide) kX6_image_c62 dX6_image_8 rfl ?_
    exact V_iret hC hr hlk (re_1 hf) (re_2 hf) (Rg_c rfl) hs dX6_image_10
/-! X6_restore -/
theorem kX6_restore_f32 : Cond.fieldLink RX6 32 "BarkNames" "images" "[LBarkNames$Wood;" ∈ wsX6_restore := by decide +kernel
theorem uX6_restore_6 : ∀ w ∈ u_ws RX6 TX6 10, w ∈ wsX6_restore := by decide +kernel
theorem kX6_restore_f137 : Cond.fieldLink RX6 137 "BarkNames$Wood" "told" "Z" ∈ wsX6_restore := by decide +kernel
theorem uX6_restore_5 : ∀ w ∈ u_ws RX5 TX5 12, w ∈ wsX6_restore := by decide +kernel
theorem kX6_restore_f25 : Cond.fieldLink RX6 25 "BarkNames" "now" "LBarkNames$Wood;" ∈ wsX6_restore := by decide +kernel
theorem kX6_restore_f39 : Cond.fieldLink RX6 39 "BarkNames" "past" "LBarkNames$Past;" ∈ wsX6_restore := by decide +kernel
theorem kX6_restore_c140 : Cond.constant RX6 140 (-1000002) ∈ wsX6_restore := by decide +kernel
theorem kX6_restore_c62 : Cond.constant RX6 62 (-1000001) ∈ wsX6_restore := by decide +kernel
abbrev rmX6_restore : Room := { frames := 2, cells := 0, slots := 0, locals := 47 }
set_option maxHeartbeats 4000000 in
set_option maxRecDepth 100000 in
theorem sX6_restore (l : Launch) {G : GT} (hG : GI G) {v1 : Int} (h1 : Rg v1) {σ : Hp} (hs : RgS σ) {r0 : Int × Hp} (hf : fX6_restore σ v1 = some r0) : Cti l G yX6_restore wsX6_restore rmX6_restore [rf G 6 0, iv v1] σ r0.1 r0.2 := by
  unfold fX6_restore at hf
  refine Cti_start (lv := [(0, rf G 6 0), (1, iv v1)]) (ret := (some .int)) (by decide +kernel) rfl hG (Nat.le_of_ble_eq_true rfl) rfl (fun p e s m args below meth c hC hr hlk => ?_)
  refine V_iload_n (k := 1) (q := 1) hC 1 rfl dX6_restore_0 rfl ?_
  refine V_iconst (q := 2) hC dX6_restore_1 rfl ?_
  refine V_csi (st := []) (q := 5) hC (sX6_isBelow l hG h1 (Rg_c rfl) hs) (va_cwS 2 hC.2.2.2.2.1 gX6_restore_X6_isBelow rfl rfl rfl (by decide +kernel) ⟨Nat.le_of_ble_eq_true rfl, Nat.le_of_ble_eq_true rfl⟩) rfl rfl (Nat.le_of_ble_eq_true rfl) dX6_restore_2 rfl ⟨Nat.zero_le _, Nat.zero_le _⟩ (fun hr1 _ => ?_)
  refine V_if_ne (tgt := 11) (q := 8) hC hr1 dX6_restore_5 (by decide) rfl (fun c2 => ?_) (fun c2 => ?_)
  · replace hf := (if_neg c2).symm.trans hf
    refine V_aload_n (k := 0) (q := 12) hC 0 rfl dX6_restore_11 rfl ?_
    refine V_getf (T := TX6) (k := 4) (q := 15) hC uX6_restore_6 rfl iD6 rfl (by decide) kX6_restore_f32 rfl dX6_restore_12 rfl ?_
    refine V_iload_n (k := 1) (q := 16) hC 1 rfl dX6_restore_15 rfl ?_
    obtain ⟨g3, hf⟩ := gd_some hf
    refine V_aald21 (q := 17) hC g3 h1 dX6_restore_16 rfl ?_
    have hj4 : (2 + v1.toNat) < 28 := by omega
    refine V_getf (T := TX5) (k := 7) (q := 20) hC uX6_restore_5 rfl (iM5 hj4) rfl (by decide) kX6_restore_f137 rfl dX6_restore_17 rfl ?_
    refine V_if_ne (tgt := 26) (q := 23) hC (hs _ _ _) dX6_restore_20 (by decide) rfl (fun c5 => ?_) (fun c5 => ?_)
    · replace hf := (if_neg c5).symm.trans hf
      refine V_aload_n (k := 0) (q := 27) hC 0 rfl dX6_restore_26 rfl ?_
      refine V_getf (T := TX6) (k := 2) (q := 30) hC uX6_restore_6 rfl iD6 rfl (by decide) kX6_restore_f25 rfl dX6_restore_27 rfl ?_
      refine V_aload_n (k := 0) (q := 31) hC 0 rfl dX6_restore_30 rfl ?_
      refine V_getf (T := TX6) (k := 4) (q := 34) hC uX6_restore_6 rfl iD6 rfl (by decide) kX6_restore_f32 rfl dX6_restore_31 rfl ?_
      refine V_iload_n (k := 1) (q := 35) hC 1 rfl dX6_restore_34 rfl ?_
      obtain ⟨g6, hf⟩ := gd_some hf
      refine V_aald21 (q := 36) hC g6 h1 dX6_restore_35 rfl ?_
      have hj7 : (2 + v1.toNat) < 28 := by omega
      obtain ⟨r8, σ9, hc10, hf⟩ := cl_some hf
      refine V_cvv (st := []) (q := 39) (σ0 := σ9) hC (sX5_become l hG (by decide) hj7 hs hc10) (cwV 1 hC.2.2.2.2.1 gX6_restore_X5_become rfl rfl rfl (by decide +kernel) ⟨Nat.le_of_ble_eq_true rfl, Nat.le_of_ble_eq_true rfl⟩) ⟨_, rfl, rfl⟩ (iM5 (by decide)) (fun _ => ⟨_, rfl⟩) rfl rfl (Nat.le_of_ble_eq_true rfl) dX6_restore_36 rfl ⟨Nat.zero_le _, Nat.zero_le _⟩ (fun hs12 => ?_)
      refine V_aload_n (k := 0) (q := 40) hC 0 rfl dX6_restore_39 rfl ?_
      refine V_getf (T := TX6) (k := 5) (q := 43) hC uX6_restore_6 rfl iD6 rfl (by decide) kX6_restore_f39 rfl dX6_restore_40 rfl ?_
      obtain ⟨r13, σ14, hc15, hf⟩ := cl_some hf
      refine V_cvv (st := []) (q := 46) (σ0 := σ14) hC (sX1_forget l hG  hs12 hc15) (cwV 0 hC.2.2.2.2.1 gX6_restore_X1_forget rfl rfl rfl (by decide +kernel) ⟨Nat.le_of_ble_eq_true rfl, Nat.le_of_ble_eq_true rfl⟩) ⟨_, rfl, rfl⟩ iD1 (fun _ => ⟨_, rfl⟩) rfl rfl (Nat.le_of_ble_eq_true rfl) dX6_restore_43 rfl ⟨Nat.zero_le _, Nat.zero_le _⟩ (fun hs17 => ?_)
      refine V_iconst (q := 47) hC dX6_restore_46 rfl ?_
      exact V_iret hC hr hlk (re_1 hf) (re_2 hf) (Rg_c rfl) hs17 dX6_restore_47
    · replace hf := (if_pos c5).symm.trans hf
      refine V_ldc (q := 25) (n := (-1000002)) hC (by decide) kX6_restore_c140 dX6_restore_23 rfl ?_
      exact V_iret hC hr hlk (re_1 hf) (re_2 hf) (Rg_c rfl) hs dX6_restore_25
  · replace hf := (if_pos c2).symm.trans hf
    refine V_ldc (q := 10) (n := (-1000001)) hC (by decide) kX6_restore_c62 dX6_restore_8 rfl ?_
    exact V_iret hC hr hlk (re_1 hf) (re_2 hf) (Rg_c rfl) hs dX6_restore_10
/-! X6_kind -/
theorem kX6_kind_f25 : Cond.fieldLink RX6 25 "BarkNames" "now" "LBarkNames$Wood;" ∈ wsX6_kind := by decide +kernel
theorem uX6_kind_6 : ∀ w ∈ u_ws RX6 TX6 10, w ∈ wsX6_kind := by decide +kernel
theorem kX6_kind_c62 : Cond.constant RX6 62 (-1000001) ∈ wsX6_kind := by decide +kernel
theorem kX6_kind_f286 : Cond.fieldLink RX6 286 "BarkNames$Wood" "kindOf" "[I" ∈ wsX6_kind := by decide +kernel
theorem uX6_kind_5 : ∀ w ∈ u_ws RX5 TX5 12, w ∈ wsX6_kind := by decide +kernel
abbrev rmX6_kind : Room := { frames := 2, cells := 0, slots := 0, locals := 42 }
set_option maxHeartbeats 4000000 in
set_option maxRecDepth 100000 in
theorem sX6_kind (l : Launch) {G : GT} (hG : GI G) {v1 : Int} (h1 : Rg v1) {σ : Hp} (hs : RgS σ) {r0 : Int × Hp} (hf : fX6_kind σ v1 = some r0) : Cti l G yX6_kind wsX6_kind rmX6_kind [rf G 6 0, iv v1] σ r0.1 r0.2 := by
  unfold fX6_kind at hf
  refine Cti_start (lv := [(0, rf G 6 0), (1, iv v1)]) (ret := (some .int)) (by decide +kernel) rfl hG (Nat.le_of_ble_eq_true rfl) rfl (fun p e s m args below meth c hC hr hlk => ?_)
  refine V_aload_n (k := 0) (q := 1) hC 0 rfl dX6_kind_0 rfl ?_
  refine V_getf (T := TX6) (k := 2) (q := 4) hC uX6_kind_6 rfl iD6 rfl (by decide) kX6_kind_f25 rfl dX6_kind_1 rfl ?_
  refine V_iload_n (k := 1) (q := 5) hC 1 rfl dX6_kind_4 rfl ?_
  refine V_cvi (st := []) (q := 8) hC (sX5_hasTree l hG (by decide) h1 hs) (cwV 1 hC.2.2.2.2.1 gX6_kind_X5_hasTree rfl rfl rfl (by decide +kernel) ⟨Nat.le_of_ble_eq_true rfl, Nat.le_of_ble_eq_true rfl⟩) ⟨_, rfl, rfl⟩ (iM5 (by decide)) (fun _ => ⟨_, rfl⟩) rfl rfl (Nat.le_of_ble_eq_true rfl) dX6_kind_5 rfl ⟨Nat.zero_le _, Nat.zero_le _⟩ (fun hr1 _ => ?_)
  refine V_if_eq (tgt := 23) (q := 11) hC hr1 dX6_kind_8 (by decide) rfl (fun c2 => ?_) (fun c2 => ?_)
  · replace hf := (if_pos c2).symm.trans hf
    refine V_ldc (q := 25) (n := (-1000001)) hC (by decide) kX6_kind_c62 dX6_kind_23 rfl ?_
    exact V_iret hC hr hlk (re_1 hf) (re_2 hf) (Rg_c rfl) hs dX6_kind_25
  · replace hf := (if_neg c2).symm.trans hf
    refine V_aload_n (k := 0) (q := 12) hC 0 rfl dX6_kind_11 rfl ?_
    refine V_getf (T := TX6) (k := 2) (q := 15) hC uX6_kind_6 rfl iD6 rfl (by decide) kX6_kind_f25 rfl dX6_kind_12 rfl ?_
    refine V_getf (T := TX5) (k := 0) (q := 18) hC uX6_kind_5 rfl (iM5 (by decide)) rfl (by decide) kX6_kind_f286 rfl dX6_kind_15 rfl ?_
    refine V_iload_n (k := 1) (q := 19) hC 1 rfl dX6_kind_18 rfl ?_
    obtain ⟨g3, hf⟩ := gd_some hf
    refine V_iald (n := 4) (q := 20) hC (iM13 (by decide)) rfl g3 h1 dX6_kind_19 rfl ?_
    refine V_goto (tgt := 25) hC dX6_kind_20 (by decide) ?_
    exact V_iret hC hr hlk (re_1 hf) (re_2 hf) (hs _ _ _) hs dX6_kind_25
/-! X6_as -/
theorem kX6_as_f25 : Cond.fieldLink RX6 25 "BarkNames" "now" "LBarkNames$Wood;" ∈ wsX6_as := by decide +kernel
theorem uX6_as_6 : ∀ w ∈ u_ws RX6 TX6 10, w ∈ wsX6_as := by decide +kernel
theorem kX6_as_c62 : Cond.constant RX6 62 (-1000001) ∈ wsX6_as := by decide +kernel
theorem kX6_as_f289 : Cond.fieldLink RX6 289 "BarkNames" "IS_TOO" "[I" ∈ wsX6_as := by decide +kernel
theorem kX6_as_f286 : Cond.fieldLink RX6 286 "BarkNames$Wood" "kindOf" "[I" ∈ wsX6_as := by decide +kernel
theorem uX6_as_5 : ∀ w ∈ u_ws RX5 TX5 12, w ∈ wsX6_as := by decide +kernel
abbrev rmX6_as : Room := { frames := 2, cells := 0, slots := 0, locals := 42 }
set_option maxHeartbeats 4000000 in
set_option maxRecDepth 100000 in
theorem sX6_as (l : Launch) {G : GT} (hG : GI G) {v1 : Int} {v2 : Int} (h1 : Rg v1) (h2 : Rg v2) {σ : Hp} (hs : RgS σ) {r0 : Int × Hp} (hf : fX6_as σ v1 v2 = some r0) : Cti l G yX6_as wsX6_as rmX6_as [rf G 6 0, iv v1, iv v2] σ r0.1 r0.2 := by
  unfold fX6_as at hf
  refine Cti_start (lv := [(0, rf G 6 0), (1, iv v1), (2, iv v2)]) (ret := (some .int)) (by decide +kernel) rfl hG (Nat.le_of_ble_eq_true rfl) rfl (fun p e s m args below meth c hC hr hlk => ?_)
  refine V_aload_n (k := 0) (q := 1) hC 0 rfl dX6_as_0 rfl ?_
  refine V_getf (T := TX6) (k := 2) (q := 4) hC uX6_as_6 rfl iD6 rfl (by decide) kX6_as_f25 rfl dX6_as_1 rfl ?_
  refine V_iload_n (k := 1) (q := 5) hC 1 rfl dX6_as_4 rfl ?_
  refine V_cvi (st := []) (q := 8) hC (sX5_hasTree l hG (by decide) h1 hs) (cwV 1 hC.2.2.2.2.1 gX6_as_X5_hasTree rfl rfl rfl (by decide +kernel) ⟨Nat.le_of_ble_eq_true rfl, Nat.le_of_ble_eq_true rfl⟩) ⟨_, rfl, rfl⟩ (iM5 (by decide)) (fun _ => ⟨_, rfl⟩) rfl rfl (Nat.le_of_ble_eq_true rfl) dX6_as_5 rfl ⟨Nat.zero_le _, Nat.zero_le _⟩ (fun hr1 _ => ?_)
  refine V_if_eq (tgt := 22) (q := 11) hC hr1 dX6_as_8 (by decide) rfl (fun c2 => ?_) (fun c2 => ?_)
  · replace hf := (if_pos c2).symm.trans hf
    refine V_ldc (q := 24) (n := (-1000001)) hC (by decide) kX6_as_c62 dX6_as_22 rfl ?_
    exact V_iret hC hr hlk (re_1 hf) (re_2 hf) (Rg_c rfl) hs dX6_as_24
  · replace hf := (if_neg c2).symm.trans hf
    refine V_iload_n (k := 2) (q := 12) hC 2 rfl dX6_as_11 rfl ?_
    refine V_gett (q := 15) hC kX6_as_f289 dX6_as_12 rfl ?_
    refine V_tlen (q := 16) hC dX6_as_15 rfl ?_
    refine V_csi (st := []) (q := 19) hC (sX6_isBelow l hG h2 (Rg_c rfl) hs) (va_cwS 2 hC.2.2.2.2.1 gX6_as_X6_isBelow rfl rfl rfl (by decide +kernel) ⟨Nat.le_of_ble_eq_true rfl, Nat.le_of_ble_eq_true rfl⟩) rfl rfl (Nat.le_of_ble_eq_true rfl) dX6_as_16 rfl ⟨Nat.zero_le _, Nat.zero_le _⟩ (fun hr3 _ => ?_)
    refine V_if_ne (tgt := 25) (q := 22) hC hr3 dX6_as_19 (by decide) rfl (fun c4 => ?_) (fun c4 => ?_)
    · replace hf := (if_neg c4).symm.trans hf
      refine V_aload_n (k := 0) (q := 26) hC 0 rfl dX6_as_25 rfl ?_
      refine V_getf (T := TX6) (k := 2) (q := 29) hC uX6_as_6 rfl iD6 rfl (by decide) kX6_as_f25 rfl dX6_as_26 rfl ?_
      refine V_getf (T := TX5) (k := 0) (q := 32) hC uX6_as_5 rfl (iM5 (by decide)) rfl (by decide) kX6_as_f286 rfl dX6_as_29 rfl ?_
      refine V_iload_n (k := 1) (q := 33) hC 1 rfl dX6_as_32 rfl ?_
      obtain ⟨g5, hf⟩ := gd_some hf
      refine V_iald (n := 4) (q := 34) hC (iM13 (by decide)) rfl g5 h1 dX6_as_33 rfl ?_
      refine V_iload_n (k := 2) (q := 35) hC 2 rfl dX6_as_34 rfl ?_
      obtain ⟨r6, σ7, hc8, hf⟩ := cl_some hf
      refine V_csi (st := []) (q := 38) (x0 := r6) (σ0 := σ7) hC (sX6_isOfKind l hG (hs _ _ _) h2 hs hc8) (va_cwS 2 hC.2.2.2.2.1 gX6_as_X6_isOfKind rfl rfl rfl (by decide +kernel) ⟨Nat.le_of_ble_eq_true rfl, Nat.le_of_ble_eq_true rfl⟩) rfl rfl (Nat.le_of_ble_eq_true rfl) dX6_as_35 rfl ⟨Nat.zero_le _, Nat.zero_le _⟩ (fun hr9 hs10 => ?_)
      refine V_if_eq (tgt := 49) (q := 41) hC hr9 dX6_as_38 (by decide) rfl (fun c11 => ?_) (fun c11 => ?_)
      · replace hf := (if_pos c11).symm.trans hf
        refine V_aload_n (k := 0) (q := 50) hC 0 rfl dX6_as_49 rfl ?_
        refine V_iconst (q := 51) hC dX6_as_50 rfl ?_
        obtain ⟨r12, σ13, hc14, hf⟩ := cl_some hf
        refine V_cvi (st := []) (q := 54) (x0 := r12) (σ0 := σ13) hC (sX6_found l hG (Rg_c rfl) hs10 hc14) (cwV 1 hC.2.2.2.2.1 gX6_as_X6_found rfl rfl rfl (by decide +kernel) ⟨Nat.le_of_ble_eq_true rfl, Nat.le_of_ble_eq_true rfl⟩) ⟨_, rfl, rfl⟩ iD6 (fun _ => ⟨_, rfl⟩) rfl rfl (Nat.le_of_ble_eq_true rfl) dX6_as_51 rfl ⟨Nat.zero_le _, Nat.zero_le _⟩ (fun hr15 hs16 => ?_)
        exact V_iret hC hr hlk (re_1 hf) (re_2 hf) hr15 hs16 dX6_as_54
      · replace hf := (if_neg c11).symm.trans hf
        refine V_aload_n (k := 0) (q := 42) hC 0 rfl dX6_as_41 rfl ?_
        refine V_iload_n (k := 1) (q := 43) hC 1 rfl dX6_as_42 rfl ?_
        obtain ⟨r17, σ18, hc19, hf⟩ := cl_some hf
        refine V_cvi (st := []) (q := 46) (x0 := r17) (σ0 := σ18) hC (sX6_foundNothing l hG h1 hs10 hc19) (cwV 1 hC.2.2.2.2.1 gX6_as_X6_foundNothing rfl rfl rfl (by decide +kernel) ⟨Nat.le_of_ble_eq_true rfl, Nat.le_of_ble_eq_true rfl⟩) ⟨_, rfl, rfl⟩ iD6 (fun _ => ⟨_, rfl⟩) rfl rfl (Nat.le_of_ble_eq_true rfl) dX6_as_43 rfl ⟨Nat.zero_le _, Nat.zero_le _⟩ (fun hr20 hs21 => ?_)
        refine V_goto (tgt := 54) hC dX6_as_46 (by decide) ?_
        exact V_iret hC hr hlk (re_1 hf) (re_2 hf) hr20 hs21 dX6_as_54
    · replace hf := (if_pos c4).symm.trans hf
      refine V_ldc (q := 24) (n := (-1000001)) hC (by decide) kX6_as_c62 dX6_as_22 rfl ?_
      exact V_iret hC hr hlk (re_1 hf) (re_2 hf) (Rg_c rfl) hs dX6_as_24
/-! X6_ask -/
theorem kX6_ask_f25 : Cond.fieldLink RX6 25 "BarkNames" "now" "LBarkNames$Wood;" ∈ wsX6_ask := by decide +kernel
theorem uX6_ask_6 : ∀ w ∈ u_ws RX6 TX6 10, w ∈ wsX6_ask := by decide +kernel
theorem kX6_ask_c62 : Cond.constant RX6 62 (-1000001) ∈ wsX6_ask := by decide +kernel
theorem kX6_ask_f53 : Cond.fieldLink RX6 53 "BarkNames" "asks" "LBarkNames$Asks;" ∈ wsX6_ask := by decide +kernel
theorem kX6_ask_f295 : Cond.fieldLink RX6 295 "BarkNames$Asks" "traced" "I" ∈ wsX6_ask := by decide +kernel
theorem uX6_ask_0 : ∀ w ∈ u_ws RX0 TX0 2, w ∈ wsX6_ask := by decide +kernel
abbrev rmX6_ask : Room := { frames := 4, cells := 0, slots := 0, locals := 91 }
set_option maxHeartbeats 4000000 in
set_option maxRecDepth 100000 in
theorem sX6_ask (l : Launch) {G : GT} (hG : GI G) {v1 : Int} {v2 : Int} (h1 : Rg v1) (h2 : Rg v2) {σ : Hp} (hs : RgS σ) {r0 : Int × Hp} (hf : fX6_ask σ v1 v2 = some r0) : Cti l G yX6_ask wsX6_ask rmX6_ask [rf G 6 0, iv v1, iv v2] σ r0.1 r0.2 := by
  unfold fX6_ask at hf
  refine Cti_start (lv := [(0, rf G 6 0), (1, iv v1), (2, iv v2)]) (ret := (some .int)) (by decide +kernel) rfl hG (Nat.le_of_ble_eq_true rfl) rfl (fun p e s m args below meth c hC hr hlk => ?_)
  refine V_aload_n (k := 0) (q := 1) hC 0 rfl dX6_ask_0 rfl ?_
  refine V_getf (T := TX6) (k := 2) (q := 4) hC uX6_ask_6 rfl iD6 rfl (by decide) kX6_ask_f25 rfl dX6_ask_1 rfl ?_
  refine V_iload_n (k := 1) (q := 5) hC 1 rfl dX6_ask_4 rfl ?_
  refine V_cvi (st := []) (q := 8) hC (sX5_hasTree l hG (by decide) h1 hs) (cwV 1 hC.2.2.2.2.1 gX6_ask_X5_hasTree rfl rfl rfl (by decide +kernel) ⟨Nat.le_of_ble_eq_true rfl, Nat.le_of_ble_eq_true rfl⟩) ⟨_, rfl, rfl⟩ (iM5 (by decide)) (fun _ => ⟨_, rfl⟩) rfl rfl (Nat.le_of_ble_eq_true rfl) dX6_ask_5 rfl ⟨Nat.zero_le _, Nat.zero_le _⟩ (fun hr1 _ => ?_)
  refine V_if_eq (tgt := 18) (q := 11) hC hr1 dX6_ask_8 (by decide) rfl (fun c2 => ?_) (fun c2 => ?_)
  · replace hf := (if_pos c2).symm.trans hf
    refine V_ldc (q := 20) (n := (-1000001)) hC (by decide) kX6_ask_c62 dX6_ask_18 rfl ?_
    exact V_iret hC hr hlk (re_1 hf) (re_2 hf) (Rg_c rfl) hs dX6_ask_20
  · replace hf := (if_neg c2).symm.trans hf
    refine V_iload_n (k := 2) (q := 12) hC 2 rfl dX6_ask_11 rfl ?_
    refine V_csi (st := []) (q := 15) hC (sX6_isChoice l hG h2 hs) (va_cwS 1 hC.2.2.2.2.1 gX6_ask_X6_isChoice rfl rfl rfl (by decide +kernel) ⟨Nat.le_of_ble_eq_true rfl, Nat.le_of_ble_eq_true rfl⟩) rfl rfl (Nat.le_of_ble_eq_true rfl) dX6_ask_12 rfl ⟨Nat.zero_le _, Nat.zero_le _⟩ (fun hr3 _ => ?_)
    refine V_if_ne (tgt := 21) (q := 18) hC hr3 dX6_ask_15 (by decide) rfl (fun c4 => ?_) (fun c4 => ?_)
    · replace hf := (if_neg c4).symm.trans hf
      refine V_aload_n (k := 0) (q := 22) hC 0 rfl dX6_ask_21 rfl ?_
      refine V_getf (T := TX6) (k := 7) (q := 25) hC uX6_ask_6 rfl iD6 rfl (by decide) kX6_ask_f53 rfl dX6_ask_22 rfl ?_
      refine V_iconst (q := 26) hC dX6_ask_25 rfl ?_
      obtain ⟨σ5, e6, hf⟩ := sq_ex hf
      have hs7 : RgS σ5 := by rw [e6]; exact RgS_hup hs (Rg_c rfl)
      refine V_putf (T := TX0) (k := 1) (ty := .int) (q := 29) hC uX6_ask_0 rfl tyX0 tyX0_ok nmX0 iD0 rfl (pf_0_1 _ _ _ _ rfl) (by decide) kX6_ask_f295 rfl (by decide +kernel) rfl rfl (Nat.le_of_ble_eq_true rfl) e6 dX6_ask_26 rfl ?_
      refine V_iload_n (k := 2) (q := 30) hC 2 rfl dX6_ask_29 rfl ?_
      refine V_if_ne (tgt := 48) (q := 33) hC h2 dX6_ask_30 (by decide) rfl (fun c8 => ?_) (fun c8 => ?_)
      · replace hf := (if_neg c8).symm.trans hf
        refine V_aload_n (k := 0) (q := 49) hC 0 rfl dX6_ask_48 rfl ?_
        refine V_getf (T := TX6) (k := 7) (q := 52) hC uX6_ask_6 rfl iD6 rfl (by decide) kX6_ask_f53 rfl dX6_ask_49 rfl ?_
        refine V_aload_n (k := 0) (q := 53) hC 0 rfl dX6_ask_52 rfl ?_
        refine V_getf (T := TX6) (k := 2) (q := 56) hC uX6_ask_6 rfl iD6 rfl (by decide) kX6_ask_f25 rfl dX6_ask_53 rfl ?_
        refine V_iload_n (k := 1) (q := 57) hC 1 rfl dX6_ask_56 rfl ?_
        obtain ⟨r9, σ10, hc11, hf⟩ := cl_some hf
        refine V_cvi (st := []) (q := 60) (x0 := r9) (σ0 := σ10) hC (sX0_markOf l hG (by decide) h1 hs7 hc11) (cwV 2 hC.2.2.2.2.1 gX6_ask_X0_markOf rfl rfl rfl (by decide +kernel) ⟨Nat.le_of_ble_eq_true rfl, Nat.le_of_ble_eq_true rfl⟩) ⟨_, rfl, rfl⟩ iD0 (fun _ => ⟨_, rfl⟩) rfl rfl (Nat.le_of_ble_eq_true rfl) dX6_ask_57 rfl ⟨Nat.zero_le _, Nat.zero_le _⟩ (fun hr12 hs13 => ?_)
        exact V_iret hC hr hlk (re_1 hf) (re_2 hf) hr12 hs13 dX6_ask_60
      · replace hf := (if_pos c8).symm.trans hf
        refine V_aload_n (k := 0) (q := 34) hC 0 rfl dX6_ask_33 rfl ?_
        refine V_getf (T := TX6) (k := 7) (q := 37) hC uX6_ask_6 rfl iD6 rfl (by decide) kX6_ask_f53 rfl dX6_ask_34 rfl ?_
        refine V_aload_n (k := 0) (q := 38) hC 0 rfl dX6_ask_37 rfl ?_
        refine V_getf (T := TX6) (k := 2) (q := 41) hC uX6_ask_6 rfl iD6 rfl (by decide) kX6_ask_f25 rfl dX6_ask_38 rfl ?_
        refine V_iload_n (k := 1) (q := 42) hC 1 rfl dX6_ask_41 rfl ?_
        obtain ⟨r14, σ15, hc16, hf⟩ := cl_some hf
        refine V_cvi (st := []) (q := 45) (x0 := r14) (σ0 := σ15) hC (sX0_sizeOf l hG (by decide) h1 hs7 hc16) (cwV 2 hC.2.2.2.2.1 gX6_ask_X0_sizeOf rfl rfl rfl (by decide +kernel) ⟨Nat.le_of_ble_eq_true rfl, Nat.le_of_ble_eq_true rfl⟩) ⟨_, rfl, rfl⟩ iD0 (fun _ => ⟨_, rfl⟩) rfl rfl (Nat.le_of_ble_eq_true rfl) dX6_ask_42 rfl ⟨Nat.zero_le _, Nat.zero_le _⟩ (fun hr17 hs18 => ?_)
        refine V_goto (tgt := 60) hC dX6_ask_45 (by decide) ?_
        exact V_iret hC hr hlk (re_1 hf) (re_2 hf) hr17 hs18 dX6_ask_60
    · replace hf := (if_pos c4).symm.trans hf
      refine V_ldc (q := 20) (n := (-1000001)) hC (by decide) kX6_ask_c62 dX6_ask_18 rfl ?_
      exact V_iret hC hr hlk (re_1 hf) (re_2 hf) (Rg_c rfl) hs dX6_ask_20
/-! X6_trace -/
theorem kX6_trace_f53 : Cond.fieldLink RX6 53 "BarkNames" "asks" "LBarkNames$Asks;" ∈ wsX6_trace := by decide +kernel
theorem uX6_trace_6 : ∀ w ∈ u_ws RX6 TX6 10, w ∈ wsX6_trace := by decide +kernel
theorem kX6_trace_f295 : Cond.fieldLink RX6 295 "BarkNames$Asks" "traced" "I" ∈ wsX6_trace := by decide +kernel
theorem uX6_trace_0 : ∀ w ∈ u_ws RX0 TX0 2, w ∈ wsX6_trace := by decide +kernel
theorem kX6_trace_c219 : Cond.constant RX6 219 (-1000000) ∈ wsX6_trace := by decide +kernel
theorem kX6_trace_f305 : Cond.fieldLink RX6 305 "BarkNames$Asks" "numbers" "[I" ∈ wsX6_trace := by decide +kernel
abbrev rmX6_trace : Room := { frames := 1, cells := 0, slots := 0, locals := 21 }
set_option maxHeartbeats 4000000 in
set_option maxRecDepth 100000 in
theorem sX6_trace (l : Launch) {G : GT} (hG : GI G) {v1 : Int} (h1 : Rg v1) {σ : Hp} (hs : RgS σ) {r0 : Int × Hp} (hf : fX6_trace σ v1 = some r0) : Cti l G yX6_trace wsX6_trace rmX6_trace [rf G 6 0, iv v1] σ r0.1 r0.2 := by
  unfold fX6_trace at hf
  refine Cti_start (lv := [(0, rf G 6 0), (1, iv v1)]) (ret := (some .int)) (by decide +kernel) rfl hG (Nat.le_of_ble_eq_true rfl) rfl (fun p e s m args below meth c hC hr hlk => ?_)
  refine V_iload_n (k := 1) (q := 1) hC 1 rfl dX6_trace_0 rfl ?_
  refine V_aload_n (k := 0) (q := 2) hC 0 rfl dX6_trace_1 rfl ?_
  refine V_getf (T := TX6) (k := 7) (q := 5) hC uX6_trace_6 rfl iD6 rfl (by decide) kX6_trace_f53 rfl dX6_trace_2 rfl ?_
  refine V_getf (T := TX0) (k := 1) (q := 8) hC uX6_trace_0 rfl iD0 rfl (by decide) kX6_trace_f295 rfl dX6_trace_5 rfl ?_
  refine V_csi (st := []) (q := 11) hC (sX6_isBelow l hG h1 (hs _ _ _) hs) (va_cwS 2 hC.2.2.2.2.1 gX6_trace_X6_isBelow rfl rfl rfl (by decide +kernel) ⟨Nat.le_of_ble_eq_true rfl, Nat.le_of_ble_eq_true rfl⟩) rfl rfl (Nat.le_of_ble_eq_true rfl) dX6_trace_8 rfl ⟨Nat.zero_le _, Nat.zero_le _⟩ (fun hr1 _ => ?_)
  refine V_if_eq (tgt := 26) (q := 14) hC hr1 dX6_trace_11 (by decide) rfl (fun c2 => ?_) (fun c2 => ?_)
  · replace hf := (if_pos c2).symm.trans hf
    refine V_ldc (q := 28) (n := (-1000000)) hC (by decide) kX6_trace_c219 dX6_trace_26 rfl ?_
    exact V_iret hC hr hlk (re_1 hf) (re_2 hf) (Rg_c rfl) hs dX6_trace_28
  · replace hf := (if_neg c2).symm.trans hf
    refine V_aload_n (k := 0) (q := 15) hC 0 rfl dX6_trace_14 rfl ?_
    refine V_getf (T := TX6) (k := 7) (q := 18) hC uX6_trace_6 rfl iD6 rfl (by decide) kX6_trace_f53 rfl dX6_trace_15 rfl ?_
    refine V_getf (T := TX0) (k := 0) (q := 21) hC uX6_trace_0 rfl iD0 rfl (by decide) kX6_trace_f305 rfl dX6_trace_18 rfl ?_
    refine V_iload_n (k := 1) (q := 22) hC 1 rfl dX6_trace_21 rfl ?_
    obtain ⟨g3, hf⟩ := gd_some hf
    refine V_iald (n := 16) (q := 23) hC iD8 rfl g3 h1 dX6_trace_22 rfl ?_
    refine V_goto (tgt := 28) hC dX6_trace_23 (by decide) ?_
    exact V_iret hC hr hlk (re_1 hf) (re_2 hf) (hs _ _ _) hs dX6_trace_28
/-! X6_rowsThere -/
theorem kX6_rowsThere_f11 : Cond.fieldLink RX6 11 "BarkNames" "rows" "[LBarkNames$Row;" ∈ wsX6_rowsThere := by decide +kernel
theorem uX6_rowsThere_6 : ∀ w ∈ u_ws RX6 TX6 10, w ∈ wsX6_rowsThere := by decide +kernel
theorem kX6_rowsThere_f85 : Cond.fieldLink RX6 85 "BarkNames$Row" "there" "Z" ∈ wsX6_rowsThere := by decide +kernel
theorem uX6_rowsThere_3 : ∀ w ∈ u_ws RX3 TX3 4, w ∈ wsX6_rowsThere := by decide +kernel
abbrev rmX6_rowsThere : Room := { frames := 0, cells := 0, slots := 0, locals := 0 }
set_option maxHeartbeats 4000000 in
set_option maxRecDepth 100000 in
theorem tlX6_rowsThere_4 {p : Program} {l : Launch} {e : Env} {s : State} {m : MethodId} {args : Array Value} {below : List Frame} {meth : Method} {c : Code} {G : GT} (hG : GI G) (hC : CX p s m args c cX6_rowsThere 3 RX6 wsX6_rowsThere G (AA G)) (hr : meth.sig.returnType = (some .int)) (hlk : meth.locks = false) {r0 : Int × Hp} : ∀ n : Nat, (∀ {σ : Hp} (hs : RgS σ) {v1 : Int} {v2 : Int} (h1 : Rg v1) (h2 : Rg v2) (hf : lX6_rowsThere_4 n σ v1 v2 = some r0), VV p l e (headSpec wsX6_rowsThere rmX6_rowsThere).room s m args below meth c (MQ below (QI G r0.1 r0.2) args s 0 0 (AA G)) G (AA G) 0 0 3 σ 4 [(0, rf G 6 0), (1, iv v1), (2, iv v2)] []) := by
  intro n
  induction n with
  | zero =>
    exact by intro σ hs v1 v2 h1 h2 hf; exact absurd (show (none : Option (Int × Hp)) = some r0 from hf) (fun z => by cases z)
  | succ n ih =>
    intro σ hs v1 v2 h1 h2 hf
    replace hf := (lX6_rowsThere_4_e0 n σ v1 v2).symm.trans hf
    refine V_iload_n (k := 2) (q := 5) hC 2 rfl dX6_rowsThere_4 rfl ?_
    refine V_aload_n (k := 0) (q := 6) hC 0 rfl dX6_rowsThere_5 rfl ?_
    refine V_getf (T := TX6) (k := 0) (q := 9) hC uX6_rowsThere_6 rfl iD6 rfl (by decide) kX6_rowsThere_f11 rfl dX6_rowsThere_6 rfl ?_
    refine V_alen20 (q := 10) hC dX6_rowsThere_9 rfl ?_
    refine V_icmp_ge (tgt := 39) (q := 13) hC h2 (Rg_c rfl) dX6_rowsThere_10 (by decide) rfl (fun c1 => ?_) (fun c1 => ?_)
    · replace hf := (if_pos c1).symm.trans hf
      refine V_iload_n (k := 1) (q := 40) hC 1 rfl dX6_rowsThere_39 rfl ?_
      exact V_iret hC hr hlk (re_1 hf) (re_2 hf) h1 hs dX6_rowsThere_40
    · replace hf := (if_neg c1).symm.trans hf
      refine V_iload_n (k := 1) (q := 14) hC 1 rfl dX6_rowsThere_13 rfl ?_
      refine V_aload_n (k := 0) (q := 15) hC 0 rfl dX6_rowsThere_14 rfl ?_
      refine V_getf (T := TX6) (k := 0) (q := 18) hC uX6_rowsThere_6 rfl iD6 rfl (by decide) kX6_rowsThere_f11 rfl dX6_rowsThere_15 rfl ?_
      refine V_iload_n (k := 2) (q := 19) hC 2 rfl dX6_rowsThere_18 rfl ?_
      obtain ⟨g2, hf⟩ := gd_some hf
      refine V_aald20 (q := 20) hC g2 h2 dX6_rowsThere_19 rfl ?_
      have hj3 : v2.toNat < 8 := by omega
      refine V_getf (T := TX3) (k := 1) (q := 23) hC uX6_rowsThere_3 rfl (iM3 hj3) rfl (by decide) kX6_rowsThere_f85 rfl dX6_rowsThere_20 rfl ?_
      refine V_if_eq (tgt := 30) (q := 26) hC (hs _ _ _) dX6_rowsThere_23 (by decide) rfl (fun c4 => ?_) (fun c4 => ?_)
      · replace hf := (if_pos c4).symm.trans hf
        refine V_iconst (q := 31) hC dX6_rowsThere_30 rfl ?_
        refine V_iadd (q := 32) hC dX6_rowsThere_31 rfl ?_
        refine V_istore_n (k := 1) (i := 1) (lv' := [(0, rf G 6 0), (1, iv (wr (v1 + 0))), (2, iv v2)]) (q := 33) hC [1, 0, 2] rfl (by decide) rfl dX6_rowsThere_32 rfl ?_
        refine V_iinc (i := 2) (lv' := [(0, rf G 6 0), (1, iv (wr (v1 + 0))), (2, iv (wr (v2 + 1)))]) (q := 36) hC 2 rfl [1, 2, 0] (by decide) rfl dX6_rowsThere_33 rfl ?_
        refine V_goto (tgt := 4) hC dX6_rowsThere_36 (by decide) ?_
        refine V_lsub [0, 1, 2] rfl ?_
        exact ih hs (Rg_wr _) (Rg_wr _) hf
      · replace hf := (if_neg c4).symm.trans hf
        refine V_iconst (q := 27) hC dX6_rowsThere_26 rfl ?_
        refine V_goto (tgt := 31) hC dX6_rowsThere_27 (by decide) ?_
        refine V_iadd (q := 32) hC dX6_rowsThere_31 rfl ?_
        refine V_istore_n (k := 1) (i := 1) (lv' := [(0, rf G 6 0), (1, iv (wr (v1 + 1))), (2, iv v2)]) (q := 33) hC [1, 0, 2] rfl (by decide) rfl dX6_rowsThere_32 rfl ?_
        refine V_iinc (i := 2) (lv' := [(0, rf G 6 0), (1, iv (wr (v1 + 1))), (2, iv (wr (v2 + 1)))]) (q := 36) hC 2 rfl [1, 2, 0] (by decide) rfl dX6_rowsThere_33 rfl ?_
        refine V_goto (tgt := 4) hC dX6_rowsThere_36 (by decide) ?_
        refine V_lsub [0, 1, 2] rfl ?_
        exact ih hs (Rg_wr _) (Rg_wr _) hf
set_option maxHeartbeats 4000000 in
set_option maxRecDepth 100000 in
theorem sX6_rowsThere (l : Launch) {G : GT} (hG : GI G) {σ : Hp} (hs : RgS σ) {r0 : Int × Hp} (hf : fX6_rowsThere σ = some r0) : Cti l G yX6_rowsThere wsX6_rowsThere rmX6_rowsThere [rf G 6 0] σ r0.1 r0.2 := by
  unfold fX6_rowsThere at hf
  refine Cti_start (lv := [(0, rf G 6 0)]) (ret := (some .int)) (by decide +kernel) rfl hG (Nat.le_of_ble_eq_true rfl) rfl (fun p e s m args below meth c hC hr hlk => ?_)
  refine V_iconst (q := 1) hC dX6_rowsThere_0 rfl ?_
  refine V_istore_n (k := 1) (i := 1) (lv' := [(0, rf G 6 0), (1, iv 0)]) (q := 2) hC [1, 0] rfl (by decide) rfl dX6_rowsThere_1 rfl ?_
  refine V_iconst (q := 3) hC dX6_rowsThere_2 rfl ?_
  refine V_istore_n (k := 2) (i := 2) (lv' := [(0, rf G 6 0), (1, iv 0), (2, iv 0)]) (q := 4) hC [1, 2, 0] rfl (by decide) rfl dX6_rowsThere_3 rfl ?_
  refine V_lsub [0, 1, 2] rfl ?_
  exact (tlX6_rowsThere_4 hG hC hr hlk FU) hs (Rg_c rfl) (Rg_c rfl) hf
/-! X6_count -/
theorem kX6_count_f25 : Cond.fieldLink RX6 25 "BarkNames" "now" "LBarkNames$Wood;" ∈ wsX6_count := by decide +kernel
theorem uX6_count_6 : ∀ w ∈ u_ws RX6 TX6 10, w ∈ wsX6_count := by decide +kernel
theorem kX6_count_f233 : Cond.fieldLink RX6 233 "BarkNames$Wood" "treeCount" "I" ∈ wsX6_count := by decide +kernel
theorem uX6_count_5 : ∀ w ∈ u_ws RX5 TX5 12, w ∈ wsX6_count := by decide +kernel
theorem kX6_count_f134 : Cond.fieldLink RX6 134 "BarkNames$Wood" "cutCount" "I" ∈ wsX6_count := by decide +kernel
theorem kX6_count_f141 : Cond.fieldLink RX6 141 "BarkNames$Wood" "year" "I" ∈ wsX6_count := by decide +kernel
theorem kX6_count_f311 : Cond.fieldLink RX6 311 "BarkNames$Wood" "wide" "I" ∈ wsX6_count := by decide +kernel
theorem kX6_count_f39 : Cond.fieldLink RX6 39 "BarkNames" "past" "LBarkNames$Past;" ∈ wsX6_count := by decide +kernel
theorem kX6_count_f185 : Cond.fieldLink RX6 185 "BarkNames$Past" "kept" "I" ∈ wsX6_count := by decide +kernel
theorem uX6_count_1 : ∀ w ∈ u_ws RX1 TX1 3, w ∈ wsX6_count := by decide +kernel
theorem kX6_count_f18 : Cond.fieldLink RX6 18 "BarkNames" "tape" "LBarkNames$Tape;" ∈ wsX6_count := by decide +kernel
theorem kX6_count_f109 : Cond.fieldLink RX6 109 "BarkNames$Tape" "length" "I" ∈ wsX6_count := by decide +kernel
theorem uX6_count_4 : ∀ w ∈ u_ws RX4 TX4 5, w ∈ wsX6_count := by decide +kernel
theorem kX6_count_c62 : Cond.constant RX6 62 (-1000001) ∈ wsX6_count := by decide +kernel
abbrev rmX6_count : Room := { frames := 1, cells := 0, slots := 0, locals := 22 }
set_option maxHeartbeats 4000000 in
set_option maxRecDepth 100000 in
theorem sX6_count (l : Launch) {G : GT} (hG : GI G) {v1 : Int} (h1 : Rg v1) {σ : Hp} (hs : RgS σ) {r0 : Int × Hp} (hf : fX6_count σ v1 = some r0) : Cti l G yX6_count wsX6_count rmX6_count [rf G 6 0, iv v1] σ r0.1 r0.2 := by
  unfold fX6_count at hf
  refine Cti_start (lv := [(0, rf G 6 0), (1, iv v1)]) (ret := (some .int)) (by decide +kernel) rfl hG (Nat.le_of_ble_eq_true rfl) rfl (fun p e s m args below meth c hC hr hlk => ?_)
  refine V_iload_n (k := 1) (q := 1) hC 1 rfl dX6_count_0 rfl ?_
  by_cases c1 : v1 = 0
  · replace hf := (if_pos c1).symm.trans hf
    refine V_tabIn (tgt := 48) hC h1 dX6_count_1 (by omega) (by omega) (by rw [c1]; rfl) (by decide) ?_
    refine V_aload_n (k := 0) (q := 49) hC 0 rfl dX6_count_48 rfl ?_
    obtain ⟨r2, σ3, hc4, hf⟩ := cl_some hf
    refine V_cvi (st := []) (q := 52) (x0 := r2) (σ0 := σ3) hC (sX6_rowsThere l hG  hs hc4) (cwV 0 hC.2.2.2.2.1 gX6_count_X6_rowsThere rfl rfl rfl (by decide +kernel) ⟨Nat.le_of_ble_eq_true rfl, Nat.le_of_ble_eq_true rfl⟩) ⟨_, rfl, rfl⟩ iD6 (fun _ => ⟨_, rfl⟩) rfl rfl (Nat.le_of_ble_eq_true rfl) dX6_count_49 rfl ⟨Nat.zero_le _, Nat.zero_le _⟩ (fun hr5 hs6 => ?_)
    exact V_iret hC hr hlk (re_1 hf) (re_2 hf) hr5 hs6 dX6_count_52
  · replace hf := (if_neg c1).symm.trans hf
    by_cases c7 : v1 = 1
    · replace hf := (if_pos c7).symm.trans hf
      refine V_tabIn (tgt := 53) hC h1 dX6_count_1 (by omega) (by omega) (by rw [c7]; rfl) (by decide) ?_
      refine V_aload_n (k := 0) (q := 54) hC 0 rfl dX6_count_53 rfl ?_
      refine V_getf (T := TX6) (k := 2) (q := 57) hC uX6_count_6 rfl iD6 rfl (by decide) kX6_count_f25 rfl dX6_count_54 rfl ?_
      refine V_getf (T := TX5) (k := 10) (q := 60) hC uX6_count_5 rfl (iM5 (by decide)) rfl (by decide) kX6_count_f233 rfl dX6_count_57 rfl ?_
      exact V_iret hC hr hlk (re_1 hf) (re_2 hf) (hs _ _ _) hs dX6_count_60
    · replace hf := (if_neg c7).symm.trans hf
      by_cases c8 : v1 = 2
      · replace hf := (if_pos c8).symm.trans hf
        refine V_tabIn (tgt := 61) hC h1 dX6_count_1 (by omega) (by omega) (by rw [c8]; rfl) (by decide) ?_
        refine V_aload_n (k := 0) (q := 62) hC 0 rfl dX6_count_61 rfl ?_
        refine V_getf (T := TX6) (k := 2) (q := 65) hC uX6_count_6 rfl iD6 rfl (by decide) kX6_count_f25 rfl dX6_count_62 rfl ?_
        refine V_getf (T := TX5) (k := 11) (q := 68) hC uX6_count_5 rfl (iM5 (by decide)) rfl (by decide) kX6_count_f134 rfl dX6_count_65 rfl ?_
        exact V_iret hC hr hlk (re_1 hf) (re_2 hf) (hs _ _ _) hs dX6_count_68
      · replace hf := (if_neg c8).symm.trans hf
        by_cases c9 : v1 = 3
        · replace hf := (if_pos c9).symm.trans hf
          refine V_tabIn (tgt := 69) hC h1 dX6_count_1 (by omega) (by omega) (by rw [c9]; rfl) (by decide) ?_
          refine V_aload_n (k := 0) (q := 70) hC 0 rfl dX6_count_69 rfl ?_
          refine V_getf (T := TX6) (k := 2) (q := 73) hC uX6_count_6 rfl iD6 rfl (by decide) kX6_count_f25 rfl dX6_count_70 rfl ?_
          obtain ⟨r10, σ11, hc12, hf⟩ := cl_some hf
          refine V_cvi (st := []) (q := 76) (x0 := r10) (σ0 := σ11) hC (sX5_readable l hG (by decide) hs hc12) (cwV 0 hC.2.2.2.2.1 gX6_count_X5_readable rfl rfl rfl (by decide +kernel) ⟨Nat.le_of_ble_eq_true rfl, Nat.le_of_ble_eq_true rfl⟩) ⟨_, rfl, rfl⟩ (iM5 (by decide)) (fun _ => ⟨_, rfl⟩) rfl rfl (Nat.le_of_ble_eq_true rfl) dX6_count_73 rfl ⟨Nat.zero_le _, Nat.zero_le _⟩ (fun hr13 hs14 => ?_)
          refine V_csi (st := []) (q := 79) hC (sJ6_bitCount_0f7a4 l hG hr13 hs14) (va_cwS 1 hC.2.2.2.2.1 gX6_count_J6_bitCount_0f7a4 rfl rfl rfl (by decide +kernel) ⟨Nat.le_of_ble_eq_true rfl, Nat.le_of_ble_eq_true rfl⟩) rfl rfl (Nat.le_of_ble_eq_true rfl) dX6_count_76 rfl ⟨Nat.zero_le _, Nat.zero_le _⟩ (fun hr15 _ => ?_)
          exact V_iret hC hr hlk (re_1 hf) (re_2 hf) hr15 hs14 dX6_count_79
        · replace hf := (if_neg c9).symm.trans hf
          by_cases c16 : v1 = 4
          · replace hf := (if_pos c16).symm.trans hf
            refine V_tabIn (tgt := 80) hC h1 dX6_count_1 (by omega) (by omega) (by rw [c16]; rfl) (by decide) ?_
            refine V_aload_n (k := 0) (q := 81) hC 0 rfl dX6_count_80 rfl ?_
            refine V_getf (T := TX6) (k := 2) (q := 84) hC uX6_count_6 rfl iD6 rfl (by decide) kX6_count_f25 rfl dX6_count_81 rfl ?_
            refine V_getf (T := TX5) (k := 9) (q := 87) hC uX6_count_5 rfl (iM5 (by decide)) rfl (by decide) kX6_count_f141 rfl dX6_count_84 rfl ?_
            exact V_iret hC hr hlk (re_1 hf) (re_2 hf) (hs _ _ _) hs dX6_count_87
          · replace hf := (if_neg c16).symm.trans hf
            by_cases c17 : v1 = 5
            · replace hf := (if_pos c17).symm.trans hf
              refine V_tabIn (tgt := 88) hC h1 dX6_count_1 (by omega) (by omega) (by rw [c17]; rfl) (by decide) ?_
              refine V_aload_n (k := 0) (q := 89) hC 0 rfl dX6_count_88 rfl ?_
              refine V_getf (T := TX6) (k := 2) (q := 92) hC uX6_count_6 rfl iD6 rfl (by decide) kX6_count_f25 rfl dX6_count_89 rfl ?_
              refine V_getf (T := TX5) (k := 8) (q := 95) hC uX6_count_5 rfl (iM5 (by decide)) rfl (by decide) kX6_count_f311 rfl dX6_count_92 rfl ?_
              exact V_iret hC hr hlk (re_1 hf) (re_2 hf) (hs _ _ _) hs dX6_count_95
            · replace hf := (if_neg c17).symm.trans hf
              by_cases c18 : v1 = 6
              · replace hf := (if_pos c18).symm.trans hf
                refine V_tabIn (tgt := 96) hC h1 dX6_count_1 (by omega) (by omega) (by rw [c18]; rfl) (by decide) ?_
                refine V_aload_n (k := 0) (q := 97) hC 0 rfl dX6_count_96 rfl ?_
                refine V_getf (T := TX6) (k := 5) (q := 100) hC uX6_count_6 rfl iD6 rfl (by decide) kX6_count_f39 rfl dX6_count_97 rfl ?_
                refine V_getf (T := TX1) (k := 2) (q := 103) hC uX6_count_1 rfl iD1 rfl (by decide) kX6_count_f185 rfl dX6_count_100 rfl ?_
                exact V_iret hC hr hlk (re_1 hf) (re_2 hf) (hs _ _ _) hs dX6_count_103
              · replace hf := (if_neg c18).symm.trans hf
                by_cases c19 : v1 = 7
                · replace hf := (if_pos c19).symm.trans hf
                  refine V_tabIn (tgt := 104) hC h1 dX6_count_1 (by omega) (by omega) (by rw [c19]; rfl) (by decide) ?_
                  refine V_aload_n (k := 0) (q := 105) hC 0 rfl dX6_count_104 rfl ?_
                  refine V_getf (T := TX6) (k := 1) (q := 108) hC uX6_count_6 rfl iD6 rfl (by decide) kX6_count_f18 rfl dX6_count_105 rfl ?_
                  refine V_getf (T := TX4) (k := 1) (q := 111) hC uX6_count_4 rfl iD4 rfl (by decide) kX6_count_f109 rfl dX6_count_108 rfl ?_
                  exact V_iret hC hr hlk (re_1 hf) (re_2 hf) (hs _ _ _) hs dX6_count_111
                · replace hf := (if_neg c19).symm.trans hf
                  refine V_tabOut (tgt := 112) hC h1 dX6_count_1 (by omega) (by decide) ?_
                  refine V_ldc (q := 114) (n := (-1000001)) hC (by decide) kX6_count_c62 dX6_count_112 rfl ?_
                  exact V_iret hC hr hlk (re_1 hf) (re_2 hf) (Rg_c rfl) hs dX6_count_114
/-! X6_status -/
theorem kX6_status_f314 : Cond.fieldLink RX6 314 "BarkNames" "latestFinding" "I" ∈ wsX6_status := by decide +kernel
theorem uX6_status_6 : ∀ w ∈ u_ws RX6 TX6 10, w ∈ wsX6_status := by decide +kernel
abbrev rmX6_status : Room := { frames := 0, cells := 0, slots := 0, locals := 0 }
set_option maxHeartbeats 4000000 in
set_option maxRecDepth 100000 in
theorem sX6_status (l : Launch) {G : GT} (hG : GI G) {σ : Hp} (hs : RgS σ) : Cti l G yX6_status wsX6_status rmX6_status [rf G 6 0] σ (fX6_status σ) σ := by
  obtain ⟨x0, hf⟩ : ∃ x, fX6_status σ = x := ⟨_, rfl⟩
  rw [hf]
  unfold fX6_status at hf
  refine Cti_start (lv := [(0, rf G 6 0)]) (ret := (some .int)) (by decide +kernel) rfl hG (Nat.le_of_ble_eq_true rfl) rfl (fun p e s m args below meth c hC hr hlk => ?_)
  refine V_aload_n (k := 0) (q := 1) hC 0 rfl dX6_status_0 rfl ?_
  refine V_getf (T := TX6) (k := 9) (q := 4) hC uX6_status_6 rfl iD6 rfl (by decide) kX6_status_f314 rfl dX6_status_1 rfl ?_
  exact V_iret hC hr hlk hf rfl (hs _ _ _) hs dX6_status_4
/-! X7_in -/
abbrev rmX7_in : Room := { frames := 0, cells := 0, slots := 0, locals := 0 }
set_option maxHeartbeats 4000000 in
set_option maxRecDepth 100000 in
theorem sX7_in (l : Launch) {G : GT} (hG : GI G) {v0 : Int} {v1 : Int} {v2 : Int} (h0 : Rg v0) (h1 : Rg v1) (h2 : Rg v2) {σ : Hp} (hs : RgS σ) : Cti l G yX7_in wsX7_in rmX7_in [iv v0, iv v1, iv v2] σ (fX7_in v0 v1 v2) σ := by
  obtain ⟨x0, hf⟩ : ∃ x, fX7_in v0 v1 v2 = x := ⟨_, rfl⟩
  rw [hf]
  unfold fX7_in at hf
  refine Cti_start (lv := [(0, iv v0), (1, iv v1), (2, iv v2)]) (ret := (some .boolean)) (by decide +kernel) rfl hG (Nat.le_of_ble_eq_true rfl) rfl (fun p e s m args below meth c hC hr hlk => ?_)
  refine V_iload_n (k := 0) (q := 1) hC 0 rfl dX7_in_0 rfl ?_
  refine V_iload_n (k := 1) (q := 2) hC 1 rfl dX7_in_1 rfl ?_
  refine V_icmp_lt (tgt := 14) (q := 5) hC h0 h1 dX7_in_2 (by decide) rfl (fun c1 => ?_) (fun c1 => ?_)
  · replace hf := (if_pos c1).symm.trans hf
    refine V_iconst (q := 15) hC dX7_in_14 rfl ?_
    exact V_zret hC hr hlk (Or.inl rfl) hf rfl hs dX7_in_15
  · replace hf := (if_neg c1).symm.trans hf
    refine V_iload_n (k := 0) (q := 6) hC 0 rfl dX7_in_5 rfl ?_
    refine V_iload_n (k := 2) (q := 7) hC 2 rfl dX7_in_6 rfl ?_
    refine V_icmp_gt (tgt := 14) (q := 10) hC h0 h2 dX7_in_7 (by decide) rfl (fun c2 => ?_) (fun c2 => ?_)
    · replace hf := (if_pos c2).symm.trans hf
      refine V_iconst (q := 15) hC dX7_in_14 rfl ?_
      exact V_zret hC hr hlk (Or.inl rfl) hf rfl hs dX7_in_15
    · replace hf := (if_neg c2).symm.trans hf
      refine V_iconst (q := 11) hC dX7_in_10 rfl ?_
      refine V_goto (tgt := 15) hC dX7_in_11 (by decide) ?_
      exact V_zret hC hr hlk (Or.inr rfl) hf rfl hs dX7_in_15
/-! X7_has -/
abbrev rmX7_has : Room := { frames := 0, cells := 0, slots := 0, locals := 0 }
set_option maxHeartbeats 4000000 in
set_option maxRecDepth 100000 in
theorem sX7_has (l : Launch) {G : GT} (hG : GI G) {v0 : Int} {v1 : Int} (h0 : Rg v0) (h1 : Rg v1) {σ : Hp} (hs : RgS σ) : Cti l G yX7_has wsX7_has rmX7_has [iv v0, iv v1] σ (fX7_has v0 v1) σ := by
  obtain ⟨x0, hf⟩ : ∃ x, fX7_has v0 v1 = x := ⟨_, rfl⟩
  rw [hf]
  unfold fX7_has at hf
  refine Cti_start (lv := [(0, iv v0), (1, iv v1)]) (ret := (some .boolean)) (by decide +kernel) rfl hG (Nat.le_of_ble_eq_true rfl) rfl (fun p e s m args below meth c hC hr hlk => ?_)
  refine V_iload_n (k := 0) (q := 1) hC 0 rfl dX7_has_0 rfl ?_
  refine V_iload_n (k := 1) (q := 2) hC 1 rfl dX7_has_1 rfl ?_
  refine V_ishr (q := 3) hC dX7_has_2 rfl ?_
  refine V_iconst (q := 4) hC dX7_has_3 rfl ?_
  refine V_iand (q := 5) hC dX7_has_4 rfl ?_
  refine V_iconst (q := 6) hC dX7_has_5 rfl ?_
  refine V_icmp_ne (tgt := 13) (q := 9) hC (Rg_qand _ _) (Rg_c rfl) dX7_has_6 (by decide) rfl (fun c1 => ?_) (fun c1 => ?_)
  · replace hf := (if_neg c1).symm.trans hf
    refine V_iconst (q := 14) hC dX7_has_13 rfl ?_
    exact V_zret hC hr hlk (Or.inl rfl) hf rfl hs dX7_has_14
  · replace hf := (if_pos c1).symm.trans hf
    refine V_iconst (q := 10) hC dX7_has_9 rfl ?_
    refine V_goto (tgt := 14) hC dX7_has_10 (by decide) ?_
    exact V_zret hC hr hlk (Or.inr rfl) hf rfl hs dX7_has_14
/-! X7_ones -/
abbrev rmX7_ones : Room := { frames := 0, cells := 0, slots := 0, locals := 0 }
set_option maxHeartbeats 4000000 in
set_option maxRecDepth 100000 in
theorem tlX7_ones_4 {p : Program} {l : Launch} {e : Env} {s : State} {m : MethodId} {args : Array Value} {below : List Frame} {meth : Method} {c : Code} {G : GT} (hG : GI G) (hC : CX p s m args c cX7_ones 3 RX7 wsX7_ones G (AA G)) (hr : meth.sig.returnType = (some .int)) (hlk : meth.locks = false) {r0 : Int × Hp} : ∀ n : Nat, (∀ {σ : Hp} (hs : RgS σ) {v0 : Int} {v1 : Int} {v2 : Int} (h0 : Rg v0) (h1 : Rg v1) (h2 : Rg v2) (hf : lX7_ones_4 n σ v0 v1 v2 = some r0), VV p l e (headSpec wsX7_ones rmX7_ones).room s m args below meth c (MQ below (QI G r0.1 r0.2) args s 0 0 (AA G)) G (AA G) 0 0 3 σ 4 [(0, iv v0), (1, iv v1), (2, iv v2)] []) := by
  intro n
  induction n with
  | zero =>
    exact by intro σ hs v0 v1 v2 h0 h1 h2 hf; exact absurd (show (none : Option (Int × Hp)) = some r0 from hf) (fun z => by cases z)
  | succ n ih =>
    intro σ hs v0 v1 v2 h0 h1 h2 hf
    replace hf := (lX7_ones_4_e0 n σ v0 v1 v2).symm.trans hf
    refine V_iload_n (k := 2) (q := 5) hC 2 rfl dX7_ones_4 rfl ?_
    refine V_bipush (q := 7) hC (by decide) dX7_ones_5 rfl ?_
    refine V_icmp_ge (tgt := 24) (q := 10) hC h2 (Rg_c rfl) dX7_ones_7 (by decide) rfl (fun c1 => ?_) (fun c1 => ?_)
    · replace hf := (if_pos c1).symm.trans hf
      refine V_iload_n (k := 1) (q := 25) hC 1 rfl dX7_ones_24 rfl ?_
      exact V_iret hC hr hlk (re_1 hf) (re_2 hf) h1 hs dX7_ones_25
    · replace hf := (if_neg c1).symm.trans hf
      refine V_iload_n (k := 1) (q := 11) hC 1 rfl dX7_ones_10 rfl ?_
      refine V_iload_n (k := 0) (q := 12) hC 0 rfl dX7_ones_11 rfl ?_
      refine V_iload_n (k := 2) (q := 13) hC 2 rfl dX7_ones_12 rfl ?_
      refine V_ishr (q := 14) hC dX7_ones_13 rfl ?_
      refine V_iconst (q := 15) hC dX7_ones_14 rfl ?_
      refine V_iand (q := 16) hC dX7_ones_15 rfl ?_
      refine V_iadd (q := 17) hC dX7_ones_16 rfl ?_
      refine V_istore_n (k := 1) (i := 1) (lv' := [(0, iv v0), (1, iv (wr (v1 + (qand (qshr v0 v2) 1)))), (2, iv v2)]) (q := 18) hC [1, 0, 2] rfl (by decide) rfl dX7_ones_17 rfl ?_
      refine V_iinc (i := 2) (lv' := [(0, iv v0), (1, iv (wr (v1 + (qand (qshr v0 v2) 1)))), (2, iv (wr (v2 + 1)))]) (q := 21) hC 2 rfl [1, 2, 0] (by decide) rfl dX7_ones_18 rfl ?_
      refine V_goto (tgt := 4) hC dX7_ones_21 (by decide) ?_
      refine V_lsub [0, 1, 2] rfl ?_
      exact ih hs h0 (Rg_wr _) (Rg_wr _) hf
set_option maxHeartbeats 4000000 in
set_option maxRecDepth 100000 in
theorem sX7_ones (l : Launch) {G : GT} (hG : GI G) {v0 : Int} (h0 : Rg v0) {σ : Hp} (hs : RgS σ) {r0 : Int × Hp} (hf : fX7_ones σ v0 = some r0) : Cti l G yX7_ones wsX7_ones rmX7_ones [iv v0] σ r0.1 r0.2 := by
  unfold fX7_ones at hf
  refine Cti_start (lv := [(0, iv v0)]) (ret := (some .int)) (by decide +kernel) rfl hG (Nat.le_of_ble_eq_true rfl) rfl (fun p e s m args below meth c hC hr hlk => ?_)
  refine V_iconst (q := 1) hC dX7_ones_0 rfl ?_
  refine V_istore_n (k := 1) (i := 1) (lv' := [(0, iv v0), (1, iv 0)]) (q := 2) hC [1, 0] rfl (by decide) rfl dX7_ones_1 rfl ?_
  refine V_iconst (q := 3) hC dX7_ones_2 rfl ?_
  refine V_istore_n (k := 2) (i := 2) (lv' := [(0, iv v0), (1, iv 0), (2, iv 0)]) (q := 4) hC [1, 2, 0] rfl (by decide) rfl dX7_ones_3 rfl ?_
  refine V_lsub [0, 1, 2] rfl ?_
  exact (tlX7_ones_4 hG hC hr hlk FU) hs h0 (Rg_c rfl) (Rg_c rfl) hf
/-! X7_found -/
theorem kX7_found_f48 : Cond.fieldLink RX7 48 "BarkNamesModel" "status" "I" ∈ wsX7_found := by decide +kernel
theorem uX7_found_7 : ∀ w ∈ u_ws RX7 TX7 22, w ∈ wsX7_found := by decide +kernel
theorem kX7_found_c52 : Cond.constant RX7 52 (-1000010) ∈ wsX7_found := by decide +kernel
abbrev rmX7_found : Room := { frames := 0, cells := 0, slots := 0, locals := 0 }
set_option maxHeartbeats 4000000 in
set_option maxRecDepth 100000 in
theorem sX7_found (l : Launch) {G : GT} (hG : GI G) {v1 : Int} (h1 : Rg v1) {σ : Hp} (hs : RgS σ) {r0 : Int × Hp} (hf : fX7_found σ v1 = some r0) : Cti l G yX7_found wsX7_found rmX7_found [rf G 7 0, iv v1] σ r0.1 r0.2 := by
  unfold fX7_found at hf
  refine Cti_start (lv := [(0, rf G 7 0), (1, iv v1)]) (ret := (some .int)) (by decide +kernel) rfl hG (Nat.le_of_ble_eq_true rfl) rfl (fun p e s m args below meth c hC hr hlk => ?_)
  refine V_aload_n (k := 0) (q := 1) hC 0 rfl dX7_found_0 rfl ?_
  refine V_iload_n (k := 1) (q := 2) hC 1 rfl dX7_found_1 rfl ?_
  obtain ⟨σ1, e2, hf⟩ := sq_ex hf
  have hs3 : RgS σ1 := by rw [e2]; exact RgS_hup hs h1
  refine V_putf (T := TX7) (k := 4) (ty := .int) (q := 5) hC uX7_found_7 rfl tyX7 tyX7_ok nmX7 iD7 rfl (pf_7_4 _ _ _ _ rfl) (by decide) kX7_found_f48 rfl (by decide +kernel) rfl rfl (Nat.le_of_ble_eq_true rfl) e2 dX7_found_2 rfl ?_
  refine V_ldc (q := 7) (n := (-1000010)) hC (by decide) kX7_found_c52 dX7_found_5 rfl ?_
  refine V_iload_n (k := 1) (q := 8) hC 1 rfl dX7_found_7 rfl ?_
  refine V_isub (q := 9) hC dX7_found_8 rfl ?_
  exact V_iret hC hr hlk (re_1 hf) (re_2 hf) (Rg_wr _) hs3 dX7_found_9
/-! X7_well -/
theorem kX7_well_f48 : Cond.fieldLink RX7 48 "BarkNamesModel" "status" "I" ∈ wsX7_well := by decide +kernel
theorem uX7_well_7 : ∀ w ∈ u_ws RX7 TX7 22, w ∈ wsX7_well := by decide +kernel
abbrev rmX7_well : Room := { frames := 0, cells := 0, slots := 0, locals := 0 }
set_option maxHeartbeats 4000000 in
set_option maxRecDepth 100000 in
theorem sX7_well (l : Launch) {G : GT} (hG : GI G) {v1 : Int} (h1 : Rg v1) {σ : Hp} (hs : RgS σ) {r0 : Int × Hp} (hf : fX7_well σ v1 = some r0) : Cti l G yX7_well wsX7_well rmX7_well [rf G 7 0, iv v1] σ r0.1 r0.2 := by
  unfold fX7_well at hf
  refine Cti_start (lv := [(0, rf G 7 0), (1, iv v1)]) (ret := (some .int)) (by decide +kernel) rfl hG (Nat.le_of_ble_eq_true rfl) rfl (fun p e s m args below meth c hC hr hlk => ?_)
  refine V_aload_n (k := 0) (q := 1) hC 0 rfl dX7_well_0 rfl ?_
  refine V_iconst (q := 2) hC dX7_well_1 rfl ?_
  obtain ⟨σ1, e2, hf⟩ := sq_ex hf
  have hs3 : RgS σ1 := by rw [e2]; exact RgS_hup hs (Rg_c rfl)
  refine V_putf (T := TX7) (k := 4) (ty := .int) (q := 5) hC uX7_well_7 rfl tyX7 tyX7_ok nmX7 iD7 rfl (pf_7_4 _ _ _ _ rfl) (by decide) kX7_well_f48 rfl (by decide +kernel) rfl rfl (Nat.le_of_ble_eq_true rfl) e2 dX7_well_2 rfl ?_
  refine V_iload_n (k := 1) (q := 6) hC 1 rfl dX7_well_5 rfl ?_
  exact V_iret hC hr hlk (re_1 hf) (re_2 hf) h1 hs3 dX7_well_6
/-! X7_copies -/
abbrev rmX7_copies : Room := { frames := 0, cells := 0, slots := 0, locals := 0 }
set_option maxHeartbeats 4000000 in
set_option maxRecDepth 100000 in
theorem tlX7_copies_3 {p : Program} {l : Launch} {e : Env} {s : State} {m : MethodId} {args : Array Value} {below : List Frame} {meth : Method} {c : Code} {G : GT} (hG : GI G) (hC : CX p s m args c cX7_copies 5 RX7 wsX7_copies G (AA G)) (hr : meth.sig.returnType = none) (hlk : meth.locks = false) {s0 : Nat} {j0 : Nat} {s2 : Nat} {j2 : Nat} (hi0 : InD s0 j0) (hi2 : InD s2 j2) {r0 : Int × Hp} : ∀ n : Nat, (∀ {σ : Hp} (hs : RgS σ) {v1 : Int} {v3 : Int} {v4 : Int} (h1 : Rg v1) (h3 : Rg v3) (h4 : Rg v4) (hf : lX7_copies_3 n σ s0 j0 s2 j2 v1 v3 v4 = some r0), VV p l e (headSpec wsX7_copies rmX7_copies).room s m args below meth c (MQ below (QV G r0.2) args s 0 0 (AA G)) G (AA G) 0 0 5 σ 3 [(0, rf G s0 j0), (1, iv v1), (2, rf G s2 j2), (3, iv v3), (4, iv v4)] []) := by
  intro n
  induction n with
  | zero =>
    exact by intro σ hs v1 v3 v4 h1 h3 h4 hf; exact absurd (show (none : Option (Int × Hp)) = some r0 from hf) (fun z => by cases z)
  | succ n ih =>
    intro σ hs v1 v3 v4 h1 h3 h4 hf
    replace hf := (lX7_copies_3_e0 n σ s0 j0 s2 j2 v1 v3 v4).symm.trans hf
    refine V_iload (k := 4) (q := 5) hC 4 rfl dX7_copies_3 rfl ?_
    refine V_bipush (q := 7) hC (by decide) dX7_copies_5 rfl ?_
    refine V_icmp_ge (tgt := 28) (q := 10) hC h4 (Rg_c rfl) dX7_copies_7 (by decide) rfl (fun c1 => ?_) (fun c1 => ?_)
    · replace hf := (if_pos c1).symm.trans hf
      exact V_vret hC hr hlk (re_2 hf) hs dX7_copies_28
    · replace hf := (if_neg c1).symm.trans hf
      refine V_aload_n (k := 2) (q := 11) hC 2 rfl dX7_copies_10 rfl ?_
      refine V_iload_n (k := 3) (q := 12) hC 3 rfl dX7_copies_11 rfl ?_
      refine V_iload (k := 4) (q := 14) hC 4 rfl dX7_copies_12 rfl ?_
      refine V_iadd (q := 15) hC dX7_copies_14 rfl ?_
      refine V_aload_n (k := 0) (q := 16) hC 0 rfl dX7_copies_15 rfl ?_
      refine V_iload_n (k := 1) (q := 17) hC 1 rfl dX7_copies_16 rfl ?_
      refine V_iload (k := 4) (q := 19) hC 4 rfl dX7_copies_17 rfl ?_
      refine V_iadd (q := 20) hC dX7_copies_19 rfl ?_
      obtain ⟨g2, hf⟩ := gd_some hf
      refine V_iald (q := 21) hC hi0 rfl g2 (Rg_wr _) dX7_copies_20 rfl ?_
      obtain ⟨g3, hf⟩ := gd_some hf
      obtain ⟨σ4, e5, hf⟩ := sq_ex hf
      have hs6 : RgS σ4 := by rw [e5]; exact RgS_hup hs (hs _ _ _)
      refine V_iast (q := 22) hC hi2 rfl g3 (Rg_wr _) e5 dX7_copies_21 rfl ?_
      refine V_iinc (i := 4) (lv' := [(0, rf G s0 j0), (1, iv v1), (2, rf G s2 j2), (3, iv v3), (4, iv (wr (v4 + 1)))]) (q := 25) hC 4 rfl [1, 2, 3, 4, 0] (by decide) rfl dX7_copies_22 rfl ?_
      refine V_goto (tgt := 3) hC dX7_copies_25 (by decide) ?_
      refine V_lsub [0, 1, 2, 3, 4] rfl ?_
      exact ih hs6 h1 h3 (Rg_wr _) hf
set_option maxHeartbeats 4000000 in
set_option maxRecDepth 100000 in
theorem sX7_copies (l : Launch) {G : GT} (hG : GI G) {s0 : Nat} {j0 : Nat} {v1 : Int} {s2 : Nat} {j2 : Nat} {v3 : Int} (hi0 : InD s0 j0) (h1 : Rg v1) (hi2 : InD s2 j2) (h3 : Rg v3) {σ : Hp} (hs : RgS σ) {r0 : Int × Hp} (hf : fX7_copies σ s0 j0 v1 s2 j2 v3 = some r0) : Ctv l G yX7_copies wsX7_copies rmX7_copies [rf G s0 j0, iv v1, rf G s2 j2, iv v3] σ r0.2 := by
  unfold fX7_copies at hf
  refine Ctv_start (lv := [(0, rf G s0 j0), (1, iv v1), (2, rf G s2 j2), (3, iv v3)]) (ret := none) (by decide +kernel) rfl hG (Nat.le_of_ble_eq_true rfl) rfl (fun p e s m args below meth c hC hr hlk => ?_)
  refine V_iconst (q := 1) hC dX7_copies_0 rfl ?_
  refine V_istore (i := 4) (lv' := [(0, rf G s0 j0), (1, iv v1), (2, rf G s2 j2), (3, iv v3), (4, iv 0)]) (q := 3) hC [1, 2, 3, 4, 0] (by decide) rfl dX7_copies_1 rfl ?_
  refine V_lsub [0, 1, 2, 3, 4] rfl ?_
  exact (tlX7_copies_3 hG hC hr hlk hi0 hi2 FU) hs h1 h3 (Rg_c rfl) hf
/-! X7_isRow -/
abbrev rmX7_isRow : Room := { frames := 1, cells := 0, slots := 0, locals := 22 }
set_option maxHeartbeats 4000000 in
set_option maxRecDepth 100000 in
theorem sX7_isRow (l : Launch) {G : GT} (hG : GI G) {v0 : Int} (h0 : Rg v0) {σ : Hp} (hs : RgS σ) : Cti l G yX7_isRow wsX7_isRow rmX7_isRow [iv v0] σ (fX7_isRow v0) σ := by
  obtain ⟨x0, hf⟩ : ∃ x, fX7_isRow v0 = x := ⟨_, rfl⟩
  rw [hf]
  unfold fX7_isRow at hf
  refine Cti_start (lv := [(0, iv v0)]) (ret := (some .boolean)) (by decide +kernel) rfl hG (Nat.le_of_ble_eq_true rfl) rfl (fun p e s m args below meth c hC hr hlk => ?_)
  refine V_iload_n (k := 0) (q := 1) hC 0 rfl dX7_isRow_0 rfl ?_
  refine V_iconst (q := 2) hC dX7_isRow_1 rfl ?_
  refine V_bipush (q := 4) hC (by decide) dX7_isRow_2 rfl ?_
  refine V_csi (st := []) (q := 7) hC (sX7_in l hG h0 (Rg_c rfl) (Rg_c rfl) hs) (va_cwS 3 hC.2.2.2.2.1 gX7_isRow_X7_in rfl rfl rfl (by decide +kernel) ⟨Nat.le_of_ble_eq_true rfl, Nat.le_of_ble_eq_true rfl⟩) rfl rfl (Nat.le_of_ble_eq_true rfl) dX7_isRow_4 rfl ⟨Nat.zero_le _, Nat.zero_le _⟩ (fun hr1 _ => ?_)
  exact V_zret hC hr hlk (zX7_in _ _ _) hf rfl hs dX7_isRow_7
/-! X7_isMissing -/
theorem kX7_isMissing_f7 : Cond.fieldLink RX7 7 "BarkNamesModel" "lane" "[I" ∈ wsX7_isMissing := by decide +kernel
theorem uX7_isMissing_7 : ∀ w ∈ u_ws RX7 TX7 22, w ∈ wsX7_isMissing := by decide +kernel
theorem kX7_isMissing_c47 : Cond.constant RX7 47 (-1000000) ∈ wsX7_isMissing := by decide +kernel
abbrev rmX7_isMissing : Room := { frames := 0, cells := 0, slots := 0, locals := 0 }
set_option maxHeartbeats 4000000 in
set_option maxRecDepth 100000 in
theorem sX7_isMissing (l : Launch) {G : GT} (hG : GI G) {v1 : Int} (h1 : Rg v1) {σ : Hp} (hs : RgS σ) {r0 : Int × Hp} (hf : fX7_isMissing σ v1 = some r0) : Cti l G yX7_isMissing wsX7_isMissing rmX7_isMissing [rf G 7 0, iv v1] σ r0.1 r0.2 := by
  unfold fX7_isMissing at hf
  refine Cti_start (lv := [(0, rf G 7 0), (1, iv v1)]) (ret := (some .boolean)) (by decide +kernel) rfl hG (Nat.le_of_ble_eq_true rfl) rfl (fun p e s m args below meth c hC hr hlk => ?_)
  refine V_aload_n (k := 0) (q := 1) hC 0 rfl dX7_isMissing_0 rfl ?_
  refine V_getf (T := TX7) (k := 0) (q := 4) hC uX7_isMissing_7 rfl iD7 rfl (by decide) kX7_isMissing_f7 rfl dX7_isMissing_1 rfl ?_
  refine V_iload_n (k := 1) (q := 5) hC 1 rfl dX7_isMissing_4 rfl ?_
  obtain ⟨g1, hf⟩ := gd_some hf
  refine V_iald (n := 8) (q := 6) hC iD22 rfl g1 h1 dX7_isMissing_5 rfl ?_
  refine V_ldc (q := 8) (n := (-1000000)) hC (by decide) kX7_isMissing_c47 dX7_isMissing_6 rfl ?_
  refine V_icmp_ne (tgt := 15) (q := 11) hC (hs _ _ _) (Rg_c rfl) dX7_isMissing_8 (by decide) rfl (fun c2 => ?_) (fun c2 => ?_)
  · replace hf := (if_neg c2).symm.trans hf
    refine V_iconst (q := 16) hC dX7_isMissing_15 rfl ?_
    exact V_zret hC hr hlk (Or.inl rfl) (re_1 hf) (re_2 hf) hs dX7_isMissing_16
  · replace hf := (if_pos c2).symm.trans hf
    refine V_iconst (q := 12) hC dX7_isMissing_11 rfl ?_
    refine V_goto (tgt := 16) hC dX7_isMissing_12 (by decide) ?_
    exact V_zret hC hr hlk (Or.inr rfl) (re_1 hf) (re_2 hf) hs dX7_isMissing_16
/-! X7_cut -/
abbrev rmX7_cut : Room := { frames := 0, cells := 0, slots := 0, locals := 0 }
set_option maxHeartbeats 4000000 in
set_option maxRecDepth 100000 in
theorem sX7_cut (l : Launch) {G : GT} (hG : GI G) {v0 : Int} {v1 : Int} (h0 : Rg v0) (h1 : Rg v1) {σ : Hp} (hs : RgS σ) : Cti l G yX7_cut wsX7_cut rmX7_cut [iv v0, iv v1] σ (fX7_cut v0 v1) σ := by
  obtain ⟨x0, hf⟩ : ∃ x, fX7_cut v0 v1 = x := ⟨_, rfl⟩
  rw [hf]
  unfold fX7_cut at hf
  refine Cti_start (lv := [(0, iv v0), (1, iv v1)]) (ret := (some .int)) (by decide +kernel) rfl hG (Nat.le_of_ble_eq_true rfl) rfl (fun p e s m args below meth c hC hr hlk => ?_)
  refine V_iload_n (k := 0) (q := 1) hC 0 rfl dX7_cut_0 rfl ?_
  refine V_if_ne (tgt := 14) (q := 4) hC h0 dX7_cut_1 (by decide) rfl (fun c1 => ?_) (fun c1 => ?_)
  · replace hf := (if_neg c1).symm.trans hf
    refine V_iload_n (k := 0) (q := 15) hC 0 rfl dX7_cut_14 rfl ?_
    refine V_iconst (q := 16) hC dX7_cut_15 rfl ?_
    refine V_icmp_ne (tgt := 29) (q := 19) hC h0 (Rg_c rfl) dX7_cut_16 (by decide) rfl (fun c2 => ?_) (fun c2 => ?_)
    · replace hf := (if_neg c2).symm.trans hf
      refine V_iload_n (k := 1) (q := 30) hC 1 rfl dX7_cut_29 rfl ?_
      exact V_iret hC hr hlk hf rfl h1 hs dX7_cut_30
    · replace hf := (if_pos c2).symm.trans hf
      refine V_iload_n (k := 1) (q := 20) hC 1 rfl dX7_cut_19 rfl ?_
      refine V_bipush (q := 22) hC (by decide) dX7_cut_20 rfl ?_
      refine V_ishl (q := 23) hC dX7_cut_22 rfl ?_
      refine V_bipush (q := 25) hC (by decide) dX7_cut_23 rfl ?_
      refine V_ishr (q := 26) hC dX7_cut_25 rfl ?_
      refine V_goto (tgt := 30) hC dX7_cut_26 (by decide) ?_
      exact V_iret hC hr hlk hf rfl (Rg_qshr _ _) hs dX7_cut_30
  · replace hf := (if_pos c1).symm.trans hf
    refine V_iload_n (k := 1) (q := 5) hC 1 rfl dX7_cut_4 rfl ?_
    refine V_bipush (q := 7) hC (by decide) dX7_cut_5 rfl ?_
    refine V_ishl (q := 8) hC dX7_cut_7 rfl ?_
    refine V_bipush (q := 10) hC (by decide) dX7_cut_8 rfl ?_
    refine V_ishr (q := 11) hC dX7_cut_10 rfl ?_
    refine V_goto (tgt := 30) hC dX7_cut_11 (by decide) ?_
    exact V_iret hC hr hlk hf rfl (Rg_qshr _ _) hs dX7_cut_30
/-! X7_row -/
theorem kX7_row_c61 : Cond.constant RX7 61 (-1000001) ∈ wsX7_row := by decide +kernel
theorem kX7_row_f7 : Cond.fieldLink RX7 7 "BarkNamesModel" "lane" "[I" ∈ wsX7_row := by decide +kernel
theorem uX7_row_7 : ∀ w ∈ u_ws RX7 TX7 22, w ∈ wsX7_row := by decide +kernel
theorem kX7_row_f13 : Cond.fieldLink RX7 13 "BarkNamesModel" "many" "[I" ∈ wsX7_row := by decide +kernel
theorem kX7_row_f16 : Cond.fieldLink RX7 16 "BarkNamesModel" "items" "[I" ∈ wsX7_row := by decide +kernel
abbrev rmX7_row : Room := { frames := 2, cells := 0, slots := 0, locals := 42 }
set_option maxHeartbeats 4000000 in
set_option maxRecDepth 100000 in
theorem tlX7_row_52 {p : Program} {l : Launch} {e : Env} {s : State} {m : MethodId} {args : Array Value} {below : List Frame} {meth : Method} {c : Code} {G : GT} (hG : GI G) (hC : CX p s m args c cX7_row 5 RX7 wsX7_row G (AA G)) (hr : meth.sig.returnType = (some .int)) (hlk : meth.locks = false) {r0 : Int × Hp} : ∀ n : Nat, (∀ {σ : Hp} (hs : RgS σ) {v1 : Int} {v3 : Int} {v4 : Int} (h1 : Rg v1) (h3 : Rg v3) (h4 : Rg v4) (hf : lX7_row_52 n σ v1 v3 v4 = some r0), VV p l e (headSpec wsX7_row rmX7_row).room s m args below meth c (MQ below (QI G r0.1 r0.2) args s 0 0 (AA G)) G (AA G) 0 0 5 σ 52 [(0, rf G 7 0), (1, iv v1), (3, iv v3), (4, iv v4)] []) := by
  intro n
  induction n with
  | zero =>
    exact by intro σ hs v1 v3 v4 h1 h3 h4 hf; exact absurd (show (none : Option (Int × Hp)) = some r0 from hf) (fun z => by cases z)
  | succ n ih =>
    intro σ hs v1 v3 v4 h1 h3 h4 hf
    replace hf := (lX7_row_52_e0 n σ v1 v3 v4).symm.trans hf
    refine V_iload (k := 4) (q := 54) hC 3 rfl dX7_row_52 rfl ?_
    refine V_bipush (q := 56) hC (by decide) dX7_row_54 rfl ?_
    refine V_icmp_ge (tgt := 78) (q := 59) hC h4 (Rg_c rfl) dX7_row_56 (by decide) rfl (fun c20 => ?_) (fun c20 => ?_)
    · replace hf := (if_pos c20).symm.trans hf
      refine V_aload_n (k := 0) (q := 79) hC 0 rfl dX7_row_78 rfl ?_
      refine V_iload_n (k := 3) (q := 80) hC 2 rfl dX7_row_79 rfl ?_
      obtain ⟨r21, σ22, hc23, hf⟩ := cl_some hf
      refine V_cvi (st := []) (q := 83) (x0 := r21) (σ0 := σ22) hC (sX7_well l hG h3 hs hc23) (cwV 1 hC.2.2.2.2.1 gX7_row_X7_well rfl rfl rfl (by decide +kernel) ⟨Nat.le_of_ble_eq_true rfl, Nat.le_of_ble_eq_true rfl⟩) ⟨_, rfl, rfl⟩ iD7 (fun _ => ⟨_, rfl⟩) rfl rfl (Nat.le_of_ble_eq_true rfl) dX7_row_80 rfl ⟨Nat.zero_le _, Nat.zero_le _⟩ (fun hr24 hs25 => ?_)
      exact V_iret hC hr hlk (re_1 hf) (re_2 hf) hr24 hs25 dX7_row_83
    · replace hf := (if_neg c20).symm.trans hf
      refine V_aload_n (k := 0) (q := 60) hC 0 rfl dX7_row_59 rfl ?_
      refine V_getf (T := TX7) (k := 2) (q := 63) hC uX7_row_7 rfl iD7 rfl (by decide) kX7_row_f16 rfl dX7_row_60 rfl ?_
      refine V_bipush (q := 65) hC (by decide) dX7_row_63 rfl ?_
      refine V_iload_n (k := 1) (q := 66) hC 1 rfl dX7_row_65 rfl ?_
      refine V_imul (q := 67) hC dX7_row_66 rfl ?_
      refine V_iload (k := 4) (q := 69) hC 3 rfl dX7_row_67 rfl ?_
      refine V_iadd (q := 70) hC dX7_row_69 rfl ?_
      refine V_iconst (q := 71) hC dX7_row_70 rfl ?_
      obtain ⟨g26, hf⟩ := gd_some hf
      obtain ⟨σ27, e28, hf⟩ := sq_ex hf
      have hs29 : RgS σ27 := by rw [e28]; exact RgS_hup hs (Rg_c rfl)
      refine V_iast (n := 320) (q := 72) hC iD24 rfl g26 (Rg_wr _) e28 dX7_row_71 rfl ?_
      refine V_iinc (i := 4) (lv' := [(0, rf G 7 0), (1, iv v1), (3, iv v3), (4, iv (wr (v4 + 1)))]) (q := 75) hC 3 rfl [1, 2, 3, 0] (by decide) rfl dX7_row_72 rfl ?_
      refine V_goto (tgt := 52) hC dX7_row_75 (by decide) ?_
      refine V_lsub [0, 1, 2, 3] rfl ?_
      exact ih hs29 h1 h3 (Rg_wr _) hf
set_option maxHeartbeats 4000000 in
set_option maxRecDepth 100000 in
theorem sX7_row (l : Launch) {G : GT} (hG : GI G) {v1 : Int} {v2 : Int} {v3 : Int} (h1 : Rg v1) (h2 : Rg v2) (h3 : Rg v3) {σ : Hp} (hs : RgS σ) {r0 : Int × Hp} (hf : fX7_row σ v1 v2 v3 = some r0) : Cti l G yX7_row wsX7_row rmX7_row [rf G 7 0, iv v1, iv v2, iv v3] σ r0.1 r0.2 := by
  unfold fX7_row at hf
  refine Cti_start (lv := [(0, rf G 7 0), (1, iv v1), (2, iv v2), (3, iv v3)]) (ret := (some .int)) (by decide +kernel) rfl hG (Nat.le_of_ble_eq_true rfl) rfl (fun p e s m args below meth c hC hr hlk => ?_)
  refine V_iload_n (k := 1) (q := 1) hC 1 rfl dX7_row_0 rfl ?_
  refine V_csi (st := []) (q := 4) hC (sX7_isRow l hG h1 hs) (va_cwS 1 hC.2.2.2.2.1 gX7_row_X7_isRow rfl rfl rfl (by decide +kernel) ⟨Nat.le_of_ble_eq_true rfl, Nat.le_of_ble_eq_true rfl⟩) rfl rfl (Nat.le_of_ble_eq_true rfl) dX7_row_1 rfl ⟨Nat.zero_le _, Nat.zero_le _⟩ (fun hr1 _ => ?_)
  refine V_if_eq (tgt := 22) (q := 7) hC hr1 dX7_row_4 (by decide) rfl (fun c2 => ?_) (fun c2 => ?_)
  · replace hf := (if_pos c2).symm.trans hf
    refine V_ldc (q := 24) (n := (-1000001)) hC (by decide) kX7_row_c61 dX7_row_22 rfl ?_
    exact V_iret hC hr hlk (re_1 hf) (re_2 hf) (Rg_c rfl) hs dX7_row_24
  · replace hf := (if_neg c2).symm.trans hf
    refine V_iload_n (k := 2) (q := 8) hC 2 rfl dX7_row_7 rfl ?_
    refine V_iconst (q := 9) hC dX7_row_8 rfl ?_
    refine V_iconst (q := 10) hC dX7_row_9 rfl ?_
    refine V_csi (st := []) (q := 13) hC (sX7_in l hG h2 (Rg_c rfl) (Rg_c rfl) hs) (va_cwS 3 hC.2.2.2.2.1 gX7_row_X7_in rfl rfl rfl (by decide +kernel) ⟨Nat.le_of_ble_eq_true rfl, Nat.le_of_ble_eq_true rfl⟩) rfl rfl (Nat.le_of_ble_eq_true rfl) dX7_row_10 rfl ⟨Nat.zero_le _, Nat.zero_le _⟩ (fun hr3 _ => ?_)
    refine V_if_eq (tgt := 22) (q := 16) hC hr3 dX7_row_13 (by decide) rfl (fun c4 => ?_) (fun c4 => ?_)
    · replace hf := (if_pos c4).symm.trans hf
      refine V_ldc (q := 24) (n := (-1000001)) hC (by decide) kX7_row_c61 dX7_row_22 rfl ?_
      exact V_iret hC hr hlk (re_1 hf) (re_2 hf) (Rg_c rfl) hs dX7_row_24
    · replace hf := (if_neg c4).symm.trans hf
      refine V_iload_n (k := 3) (q := 17) hC 3 rfl dX7_row_16 rfl ?_
      refine V_bipush (q := 19) hC (by decide) dX7_row_17 rfl ?_
      refine V_icmp_le (tgt := 25) (q := 22) hC h3 (Rg_c rfl) dX7_row_19 (by decide) rfl (fun c5 => ?_) (fun c5 => ?_)
      · replace hf := (if_pos c5).symm.trans hf
        refine V_iload_n (k := 3) (q := 26) hC 3 rfl dX7_row_25 rfl ?_
        refine V_if_ge (tgt := 35) (q := 29) hC h3 dX7_row_26 (by decide) rfl (fun c6 => ?_) (fun c6 => ?_)
        · replace hf := (if_pos c6).symm.trans hf
          refine V_aload_n (k := 0) (q := 36) hC 0 rfl dX7_row_35 rfl ?_
          refine V_getf (T := TX7) (k := 0) (q := 39) hC uX7_row_7 rfl iD7 rfl (by decide) kX7_row_f7 rfl dX7_row_36 rfl ?_
          refine V_iload_n (k := 1) (q := 40) hC 1 rfl dX7_row_39 rfl ?_
          refine V_iload_n (k := 2) (q := 41) hC 2 rfl dX7_row_40 rfl ?_
          obtain ⟨g7, hf⟩ := gd_some hf
          obtain ⟨σ8, e9, hf⟩ := sq_ex hf
          have hs10 : RgS σ8 := by rw [e9]; exact RgS_hup hs h2
          refine V_iast (n := 8) (q := 42) hC iD22 rfl g7 h1 e9 dX7_row_41 rfl ?_
          refine V_aload_n (k := 0) (q := 43) hC 0 rfl dX7_row_42 rfl ?_
          refine V_getf (T := TX7) (k := 1) (q := 46) hC uX7_row_7 rfl iD7 rfl (by decide) kX7_row_f13 rfl dX7_row_43 rfl ?_
          refine V_iload_n (k := 1) (q := 47) hC 1 rfl dX7_row_46 rfl ?_
          refine V_iload_n (k := 3) (q := 48) hC 3 rfl dX7_row_47 rfl ?_
          obtain ⟨g11, hf⟩ := gd_some hf
          obtain ⟨σ12, e13, hf⟩ := sq_ex hf
          have hs14 : RgS σ12 := by rw [e13]; exact RgS_hup hs10 h3
          refine V_iast (n := 8) (q := 49) hC iD23 rfl g11 h1 e13 dX7_row_48 rfl ?_
          refine V_iconst (q := 50) hC dX7_row_49 rfl ?_
          refine V_istore (i := 4) (lv' := [(0, rf G 7 0), (1, iv v1), (2, iv v2), (3, iv v3), (4, iv 0)]) (q := 52) hC [1, 2, 3, 4, 0] (by decide) rfl dX7_row_50 rfl ?_
          refine V_lsub [0, 1, 3, 4] rfl ?_
          exact (tlX7_row_52 hG hC hr hlk FU) hs14 h1 h3 (Rg_c rfl) hf
        · replace hf := (if_neg c6).symm.trans hf
          refine V_aload_n (k := 0) (q := 30) hC 0 rfl dX7_row_29 rfl ?_
          refine V_iconst (q := 31) hC dX7_row_30 rfl ?_
          obtain ⟨r15, σ16, hc17, hf⟩ := cl_some hf
          refine V_cvi (st := []) (q := 34) (x0 := r15) (σ0 := σ16) hC (sX7_found l hG (Rg_c rfl) hs hc17) (cwV 1 hC.2.2.2.2.1 gX7_row_X7_found rfl rfl rfl (by decide +kernel) ⟨Nat.le_of_ble_eq_true rfl, Nat.le_of_ble_eq_true rfl⟩) ⟨_, rfl, rfl⟩ iD7 (fun _ => ⟨_, rfl⟩) rfl rfl (Nat.le_of_ble_eq_true rfl) dX7_row_31 rfl ⟨Nat.zero_le _, Nat.zero_le _⟩ (fun hr18 hs19 => ?_)
          exact V_iret hC hr hlk (re_1 hf) (re_2 hf) hr18 hs19 dX7_row_34
      · replace hf := (if_neg c5).symm.trans hf
        refine V_ldc (q := 24) (n := (-1000001)) hC (by decide) kX7_row_c61 dX7_row_22 rfl ?_
        exact V_iret hC hr hlk (re_1 hf) (re_2 hf) (Rg_c rfl) hs dX7_row_24
/-! X7_set -/
theorem kX7_set_f13 : Cond.fieldLink RX7 13 "BarkNamesModel" "many" "[I" ∈ wsX7_set := by decide +kernel
theorem uX7_set_7 : ∀ w ∈ u_ws RX7 TX7 22, w ∈ wsX7_set := by decide +kernel
theorem kX7_set_f16 : Cond.fieldLink RX7 16 "BarkNamesModel" "items" "[I" ∈ wsX7_set := by decide +kernel
theorem kX7_set_f7 : Cond.fieldLink RX7 7 "BarkNamesModel" "lane" "[I" ∈ wsX7_set := by decide +kernel
theorem kX7_set_c61 : Cond.constant RX7 61 (-1000001) ∈ wsX7_set := by decide +kernel
abbrev rmX7_set : Room := { frames := 2, cells := 0, slots := 0, locals := 42 }
set_option maxHeartbeats 4000000 in
set_option maxRecDepth 100000 in
theorem sX7_set (l : Launch) {G : GT} (hG : GI G) {v1 : Int} {v2 : Int} {v3 : Int} (h1 : Rg v1) (h2 : Rg v2) (h3 : Rg v3) {σ : Hp} (hs : RgS σ) {r0 : Int × Hp} (hf : fX7_set σ v1 v2 v3 = some r0) : Cti l G yX7_set wsX7_set rmX7_set [rf G 7 0, iv v1, iv v2, iv v3] σ r0.1 r0.2 := by
  unfold fX7_set at hf
  refine Cti_start (lv := [(0, rf G 7 0), (1, iv v1), (2, iv v2), (3, iv v3)]) (ret := (some .int)) (by decide +kernel) rfl hG (Nat.le_of_ble_eq_true rfl) rfl (fun p e s m args below meth c hC hr hlk => ?_)
  refine V_iload_n (k := 1) (q := 1) hC 1 rfl dX7_set_0 rfl ?_
  refine V_csi (st := []) (q := 4) hC (sX7_isRow l hG h1 hs) (va_cwS 1 hC.2.2.2.2.1 gX7_set_X7_isRow rfl rfl rfl (by decide +kernel) ⟨Nat.le_of_ble_eq_true rfl, Nat.le_of_ble_eq_true rfl⟩) rfl rfl (Nat.le_of_ble_eq_true rfl) dX7_set_1 rfl ⟨Nat.zero_le _, Nat.zero_le _⟩ (fun hr1 _ => ?_)
  refine V_if_ne (tgt := 10) (q := 7) hC hr1 dX7_set_4 (by decide) rfl (fun c2 => ?_) (fun c2 => ?_)
  · replace hf := (if_neg c2).symm.trans hf
    refine V_aload_n (k := 0) (q := 11) hC 0 rfl dX7_set_10 rfl ?_
    refine V_iload_n (k := 1) (q := 12) hC 1 rfl dX7_set_11 rfl ?_
    obtain ⟨r3, σ4, hc5, hf⟩ := cl_some hf
    refine V_cvi (st := []) (q := 15) (x0 := r3) (σ0 := σ4) hC (sX7_isMissing l hG h1 hs hc5) (cwV 1 hC.2.2.2.2.1 gX7_set_X7_isMissing rfl rfl rfl (by decide +kernel) ⟨Nat.le_of_ble_eq_true rfl, Nat.le_of_ble_eq_true rfl⟩) ⟨_, rfl, rfl⟩ iD7 (fun _ => ⟨_, rfl⟩) rfl rfl (Nat.le_of_ble_eq_true rfl) dX7_set_12 rfl ⟨Nat.zero_le _, Nat.zero_le _⟩ (fun hr6 hs7 => ?_)
    refine V_if_eq (tgt := 24) (q := 18) hC hr6 dX7_set_15 (by decide) rfl (fun c8 => ?_) (fun c8 => ?_)
    · replace hf := (if_pos c8).symm.trans hf
      refine V_iload_n (k := 2) (q := 25) hC 2 rfl dX7_set_24 rfl ?_
      refine V_iconst (q := 26) hC dX7_set_25 rfl ?_
      refine V_aload_n (k := 0) (q := 27) hC 0 rfl dX7_set_26 rfl ?_
      refine V_getf (T := TX7) (k := 1) (q := 30) hC uX7_set_7 rfl iD7 rfl (by decide) kX7_set_f13 rfl dX7_set_27 rfl ?_
      refine V_iload_n (k := 1) (q := 31) hC 1 rfl dX7_set_30 rfl ?_
      obtain ⟨g9, hf⟩ := gd_some hf
      refine V_iald (n := 8) (q := 32) hC iD23 rfl g9 h1 dX7_set_31 rfl ?_
      refine V_iconst (q := 33) hC dX7_set_32 rfl ?_
      refine V_isub (q := 34) hC dX7_set_33 rfl ?_
      refine V_csi (st := []) (q := 37) hC (sX7_in l hG h2 (Rg_c rfl) (Rg_wr _) hs7) (va_cwS 3 hC.2.2.2.2.1 gX7_set_X7_in rfl rfl rfl (by decide +kernel) ⟨Nat.le_of_ble_eq_true rfl, Nat.le_of_ble_eq_true rfl⟩) rfl rfl (Nat.le_of_ble_eq_true rfl) dX7_set_34 rfl ⟨Nat.zero_le _, Nat.zero_le _⟩ (fun hr10 _ => ?_)
      refine V_if_ne (tgt := 46) (q := 40) hC hr10 dX7_set_37 (by decide) rfl (fun c11 => ?_) (fun c11 => ?_)
      · replace hf := (if_neg c11).symm.trans hf
        refine V_aload_n (k := 0) (q := 47) hC 0 rfl dX7_set_46 rfl ?_
        refine V_getf (T := TX7) (k := 2) (q := 50) hC uX7_set_7 rfl iD7 rfl (by decide) kX7_set_f16 rfl dX7_set_47 rfl ?_
        refine V_bipush (q := 52) hC (by decide) dX7_set_50 rfl ?_
        refine V_iload_n (k := 1) (q := 53) hC 1 rfl dX7_set_52 rfl ?_
        refine V_imul (q := 54) hC dX7_set_53 rfl ?_
        refine V_iload_n (k := 2) (q := 55) hC 2 rfl dX7_set_54 rfl ?_
        refine V_iadd (q := 56) hC dX7_set_55 rfl ?_
        refine V_aload_n (k := 0) (q := 57) hC 0 rfl dX7_set_56 rfl ?_
        refine V_getf (T := TX7) (k := 0) (q := 60) hC uX7_set_7 rfl iD7 rfl (by decide) kX7_set_f7 rfl dX7_set_57 rfl ?_
        refine V_iload_n (k := 1) (q := 61) hC 1 rfl dX7_set_60 rfl ?_
        obtain ⟨g12, hf⟩ := gd_some hf
        refine V_iald (n := 8) (q := 62) hC iD22 rfl g12 h1 dX7_set_61 rfl ?_
        refine V_iload_n (k := 3) (q := 63) hC 3 rfl dX7_set_62 rfl ?_
        refine V_csi (st := [iv (wr ((wr (40 * v1)) + v2)), rf G 24 0]) (q := 66) hC (sX7_cut l hG (hs7 _ _ _) h3 hs7) (va_cwS 2 hC.2.2.2.2.1 gX7_set_X7_cut rfl rfl rfl (by decide +kernel) ⟨Nat.le_of_ble_eq_true rfl, Nat.le_of_ble_eq_true rfl⟩) rfl rfl (Nat.le_of_ble_eq_true rfl) dX7_set_63 rfl ⟨Nat.zero_le _, Nat.zero_le _⟩ (fun hr13 _ => ?_)
        obtain ⟨g14, hf⟩ := gd_some hf
        obtain ⟨σ15, e16, hf⟩ := sq_ex hf
        have hs17 : RgS σ15 := by rw [e16]; exact RgS_hup hs7 hr13
        refine V_iast (n := 320) (q := 67) hC iD24 rfl g14 (Rg_wr _) e16 dX7_set_66 rfl ?_
        refine V_aload_n (k := 0) (q := 68) hC 0 rfl dX7_set_67 rfl ?_
        refine V_aload_n (k := 0) (q := 69) hC 0 rfl dX7_set_68 rfl ?_
        refine V_getf (T := TX7) (k := 2) (q := 72) hC uX7_set_7 rfl iD7 rfl (by decide) kX7_set_f16 rfl dX7_set_69 rfl ?_
        refine V_bipush (q := 74) hC (by decide) dX7_set_72 rfl ?_
        refine V_iload_n (k := 1) (q := 75) hC 1 rfl dX7_set_74 rfl ?_
        refine V_imul (q := 76) hC dX7_set_75 rfl ?_
        refine V_iload_n (k := 2) (q := 77) hC 2 rfl dX7_set_76 rfl ?_
        refine V_iadd (q := 78) hC dX7_set_77 rfl ?_
        obtain ⟨g18, hf⟩ := gd_some hf
        refine V_iald (n := 320) (q := 79) hC iD24 rfl g18 (Rg_wr _) dX7_set_78 rfl ?_
        obtain ⟨r19, σ20, hc21, hf⟩ := cl_some hf
        refine V_cvi (st := []) (q := 82) (x0 := r19) (σ0 := σ20) hC (sX7_well l hG (hs17 _ _ _) hs17 hc21) (cwV 1 hC.2.2.2.2.1 gX7_set_X7_well rfl rfl rfl (by decide +kernel) ⟨Nat.le_of_ble_eq_true rfl, Nat.le_of_ble_eq_true rfl⟩) ⟨_, rfl, rfl⟩ iD7 (fun _ => ⟨_, rfl⟩) rfl rfl (Nat.le_of_ble_eq_true rfl) dX7_set_79 rfl ⟨Nat.zero_le _, Nat.zero_le _⟩ (fun hr22 hs23 => ?_)
        exact V_iret hC hr hlk (re_1 hf) (re_2 hf) hr22 hs23 dX7_set_82
      · replace hf := (if_pos c11).symm.trans hf
        refine V_aload_n (k := 0) (q := 41) hC 0 rfl dX7_set_40 rfl ?_
        refine V_iconst (q := 42) hC dX7_set_41 rfl ?_
        obtain ⟨r24, σ25, hc26, hf⟩ := cl_some hf
        refine V_cvi (st := []) (q := 45) (x0 := r24) (σ0 := σ25) hC (sX7_found l hG (Rg_c rfl) hs7 hc26) (cwV 1 hC.2.2.2.2.1 gX7_set_X7_found rfl rfl rfl (by decide +kernel) ⟨Nat.le_of_ble_eq_true rfl, Nat.le_of_ble_eq_true rfl⟩) ⟨_, rfl, rfl⟩ iD7 (fun _ => ⟨_, rfl⟩) rfl rfl (Nat.le_of_ble_eq_true rfl) dX7_set_42 rfl ⟨Nat.zero_le _, Nat.zero_le _⟩ (fun hr27 hs28 => ?_)
        exact V_iret hC hr hlk (re_1 hf) (re_2 hf) hr27 hs28 dX7_set_45
    · replace hf := (if_neg c8).symm.trans hf
      refine V_aload_n (k := 0) (q := 19) hC 0 rfl dX7_set_18 rfl ?_
      refine V_iconst (q := 20) hC dX7_set_19 rfl ?_
      obtain ⟨r29, σ30, hc31, hf⟩ := cl_some hf
      refine V_cvi (st := []) (q := 23) (x0 := r29) (σ0 := σ30) hC (sX7_found l hG (Rg_c rfl) hs7 hc31) (cwV 1 hC.2.2.2.2.1 gX7_set_X7_found rfl rfl rfl (by decide +kernel) ⟨Nat.le_of_ble_eq_true rfl, Nat.le_of_ble_eq_true rfl⟩) ⟨_, rfl, rfl⟩ iD7 (fun _ => ⟨_, rfl⟩) rfl rfl (Nat.le_of_ble_eq_true rfl) dX7_set_20 rfl ⟨Nat.zero_le _, Nat.zero_le _⟩ (fun hr32 hs33 => ?_)
      exact V_iret hC hr hlk (re_1 hf) (re_2 hf) hr32 hs33 dX7_set_23
  · replace hf := (if_pos c2).symm.trans hf
    refine V_ldc (q := 9) (n := (-1000001)) hC (by decide) kX7_set_c61 dX7_set_7 rfl ?_
    exact V_iret hC hr hlk (re_1 hf) (re_2 hf) (Rg_c rfl) hs dX7_set_9
/-! X7_isPart -/
theorem kX7_isPart_f13 : Cond.fieldLink RX7 13 "BarkNamesModel" "many" "[I" ∈ wsX7_isPart := by decide +kernel
theorem uX7_isPart_7 : ∀ w ∈ u_ws RX7 TX7 22, w ∈ wsX7_isPart := by decide +kernel
abbrev rmX7_isPart : Room := { frames := 0, cells := 0, slots := 0, locals := 0 }
set_option maxHeartbeats 4000000 in
set_option maxRecDepth 100000 in
theorem sX7_isPart (l : Launch) {G : GT} (hG : GI G) {v1 : Int} {v2 : Int} {v3 : Int} (h1 : Rg v1) (h2 : Rg v2) (h3 : Rg v3) {σ : Hp} (hs : RgS σ) {r0 : Int × Hp} (hf : fX7_isPart σ v1 v2 v3 = some r0) : Cti l G yX7_isPart wsX7_isPart rmX7_isPart [rf G 7 0, iv v1, iv v2, iv v3] σ r0.1 r0.2 := by
  unfold fX7_isPart at hf
  refine Cti_start (lv := [(0, rf G 7 0), (1, iv v1), (2, iv v2), (3, iv v3)]) (ret := (some .boolean)) (by decide +kernel) rfl hG (Nat.le_of_ble_eq_true rfl) rfl (fun p e s m args below meth c hC hr hlk => ?_)
  refine V_iload_n (k := 2) (q := 1) hC 2 rfl dX7_isPart_0 rfl ?_
  refine V_if_lt (tgt := 34) (q := 4) hC h2 dX7_isPart_1 (by decide) rfl (fun c1 => ?_) (fun c1 => ?_)
  · replace hf := (if_pos c1).symm.trans hf
    refine V_iconst (q := 35) hC dX7_isPart_34 rfl ?_
    exact V_zret hC hr hlk (Or.inl rfl) (re_1 hf) (re_2 hf) hs dX7_isPart_35
  · replace hf := (if_neg c1).symm.trans hf
    refine V_iload_n (k := 3) (q := 5) hC 3 rfl dX7_isPart_4 rfl ?_
    refine V_if_lt (tgt := 34) (q := 8) hC h3 dX7_isPart_5 (by decide) rfl (fun c2 => ?_) (fun c2 => ?_)
    · replace hf := (if_pos c2).symm.trans hf
      refine V_iconst (q := 35) hC dX7_isPart_34 rfl ?_
      exact V_zret hC hr hlk (Or.inl rfl) (re_1 hf) (re_2 hf) hs dX7_isPart_35
    · replace hf := (if_neg c2).symm.trans hf
      refine V_iload_n (k := 2) (q := 9) hC 2 rfl dX7_isPart_8 rfl ?_
      refine V_aload_n (k := 0) (q := 10) hC 0 rfl dX7_isPart_9 rfl ?_
      refine V_getf (T := TX7) (k := 1) (q := 13) hC uX7_isPart_7 rfl iD7 rfl (by decide) kX7_isPart_f13 rfl dX7_isPart_10 rfl ?_
      refine V_iload_n (k := 1) (q := 14) hC 1 rfl dX7_isPart_13 rfl ?_
      obtain ⟨g3, hf⟩ := gd_some hf
      refine V_iald (n := 8) (q := 15) hC iD23 rfl g3 h1 dX7_isPart_14 rfl ?_
      refine V_icmp_gt (tgt := 34) (q := 18) hC h2 (hs _ _ _) dX7_isPart_15 (by decide) rfl (fun c4 => ?_) (fun c4 => ?_)
      · replace hf := (if_pos c4).symm.trans hf
        refine V_iconst (q := 35) hC dX7_isPart_34 rfl ?_
        exact V_zret hC hr hlk (Or.inl rfl) (re_1 hf) (re_2 hf) hs dX7_isPart_35
      · replace hf := (if_neg c4).symm.trans hf
        refine V_iload_n (k := 3) (q := 19) hC 3 rfl dX7_isPart_18 rfl ?_
        refine V_aload_n (k := 0) (q := 20) hC 0 rfl dX7_isPart_19 rfl ?_
        refine V_getf (T := TX7) (k := 1) (q := 23) hC uX7_isPart_7 rfl iD7 rfl (by decide) kX7_isPart_f13 rfl dX7_isPart_20 rfl ?_
        refine V_iload_n (k := 1) (q := 24) hC 1 rfl dX7_isPart_23 rfl ?_
        obtain ⟨g5, hf⟩ := gd_some hf
        refine V_iald (n := 8) (q := 25) hC iD23 rfl g5 h1 dX7_isPart_24 rfl ?_
        refine V_iload_n (k := 2) (q := 26) hC 2 rfl dX7_isPart_25 rfl ?_
        refine V_isub (q := 27) hC dX7_isPart_26 rfl ?_
        refine V_icmp_gt (tgt := 34) (q := 30) hC h3 (Rg_wr _) dX7_isPart_27 (by decide) rfl (fun c6 => ?_) (fun c6 => ?_)
        · replace hf := (if_pos c6).symm.trans hf
          refine V_iconst (q := 35) hC dX7_isPart_34 rfl ?_
          exact V_zret hC hr hlk (Or.inl rfl) (re_1 hf) (re_2 hf) hs dX7_isPart_35
        · replace hf := (if_neg c6).symm.trans hf
          refine V_iconst (q := 31) hC dX7_isPart_30 rfl ?_
          refine V_goto (tgt := 35) hC dX7_isPart_31 (by decide) ?_
          exact V_zret hC hr hlk (Or.inr rfl) (re_1 hf) (re_2 hf) hs dX7_isPart_35
/-! X7_copy -/
theorem kX7_copy_c61 : Cond.constant RX7 61 (-1000001) ∈ wsX7_copy := by decide +kernel
theorem kX7_copy_f7 : Cond.fieldLink RX7 7 "BarkNamesModel" "lane" "[I" ∈ wsX7_copy := by decide +kernel
theorem uX7_copy_7 : ∀ w ∈ u_ws RX7 TX7 22, w ∈ wsX7_copy := by decide +kernel
theorem kX7_copy_f19 : Cond.fieldLink RX7 19 "BarkNamesModel" "spare" "[I" ∈ wsX7_copy := by decide +kernel
theorem kX7_copy_f16 : Cond.fieldLink RX7 16 "BarkNamesModel" "items" "[I" ∈ wsX7_copy := by decide +kernel
abbrev rmX7_copy : Room := { frames := 2, cells := 0, slots := 0, locals := 42 }
set_option maxHeartbeats 4000000 in
set_option maxRecDepth 100000 in
theorem tlX7_copy_129 {p : Program} {l : Launch} {e : Env} {s : State} {m : MethodId} {args : Array Value} {below : List Frame} {meth : Method} {c : Code} {G : GT} (hG : GI G) (hC : CX p s m args c cX7_copy 7 RX7 wsX7_copy G (AA G)) (hr : meth.sig.returnType = (some .int)) (hlk : meth.locks = false) {r0 : Int × Hp} : ∀ n : Nat, (∀ {σ : Hp} (hs : RgS σ) {v3 : Int} {v4 : Int} {v5 : Int} {v6 : Int} (h3 : Rg v3) (h4 : Rg v4) (h5 : Rg v5) (h6 : Rg v6) (hf : lX7_copy_129 n σ v3 v4 v5 v6 = some r0), VV p l e (headSpec wsX7_copy rmX7_copy).room s m args below meth c (MQ below (QI G r0.1 r0.2) args s 0 0 (AA G)) G (AA G) 0 0 7 σ 129 [(0, rf G 7 0), (3, iv v3), (4, iv v4), (5, iv v5), (6, iv v6)] []) := by
  intro n
  induction n with
  | zero =>
    exact by intro σ hs v3 v4 v5 v6 h3 h4 h5 h6 hf; exact absurd (show (none : Option (Int × Hp)) = some r0 from hf) (fun z => by cases z)
  | succ n ih =>
    intro σ hs v3 v4 v5 v6 h3 h4 h5 h6 hf
    replace hf := (lX7_copy_129_e0 n σ v3 v4 v5 v6).symm.trans hf
    refine V_iload (k := 6) (q := 131) hC 4 rfl dX7_copy_129 rfl ?_
    refine V_iload (k := 5) (q := 133) hC 3 rfl dX7_copy_131 rfl ?_
    refine V_icmp_ge (tgt := 164) (q := 136) hC h6 h5 dX7_copy_133 (by decide) rfl (fun c63 => ?_) (fun c63 => ?_)
    · replace hf := (if_pos c63).symm.trans hf
      refine V_aload_n (k := 0) (q := 165) hC 0 rfl dX7_copy_164 rfl ?_
      refine V_iload (k := 5) (q := 167) hC 3 rfl dX7_copy_165 rfl ?_
      obtain ⟨r64, σ65, hc66, hf⟩ := cl_some hf
      refine V_cvi (st := []) (q := 170) (x0 := r64) (σ0 := σ65) hC (sX7_well l hG h5 hs hc66) (cwV 1 hC.2.2.2.2.1 gX7_copy_X7_well rfl rfl rfl (by decide +kernel) ⟨Nat.le_of_ble_eq_true rfl, Nat.le_of_ble_eq_true rfl⟩) ⟨_, rfl, rfl⟩ iD7 (fun _ => ⟨_, rfl⟩) rfl rfl (Nat.le_of_ble_eq_true rfl) dX7_copy_167 rfl ⟨Nat.zero_le _, Nat.zero_le _⟩ (fun hr67 hs68 => ?_)
      exact V_iret hC hr hlk (re_1 hf) (re_2 hf) hr67 hs68 dX7_copy_170
    · replace hf := (if_neg c63).symm.trans hf
      refine V_aload_n (k := 0) (q := 137) hC 0 rfl dX7_copy_136 rfl ?_
      refine V_getf (T := TX7) (k := 2) (q := 140) hC uX7_copy_7 rfl iD7 rfl (by decide) kX7_copy_f16 rfl dX7_copy_137 rfl ?_
      refine V_bipush (q := 142) hC (by decide) dX7_copy_140 rfl ?_
      refine V_iload_n (k := 3) (q := 143) hC 1 rfl dX7_copy_142 rfl ?_
      refine V_imul (q := 144) hC dX7_copy_143 rfl ?_
      refine V_iload (k := 4) (q := 146) hC 2 rfl dX7_copy_144 rfl ?_
      refine V_iadd (q := 147) hC dX7_copy_146 rfl ?_
      refine V_iload (k := 6) (q := 149) hC 4 rfl dX7_copy_147 rfl ?_
      refine V_iadd (q := 150) hC dX7_copy_149 rfl ?_
      refine V_aload_n (k := 0) (q := 151) hC 0 rfl dX7_copy_150 rfl ?_
      refine V_getf (T := TX7) (k := 3) (q := 154) hC uX7_copy_7 rfl iD7 rfl (by decide) kX7_copy_f19 rfl dX7_copy_151 rfl ?_
      refine V_iload (k := 6) (q := 156) hC 4 rfl dX7_copy_154 rfl ?_
      obtain ⟨g69, hf⟩ := gd_some hf
      refine V_iald (n := 40) (q := 157) hC iD25 rfl g69 h6 dX7_copy_156 rfl ?_
      obtain ⟨g70, hf⟩ := gd_some hf
      obtain ⟨σ71, e72, hf⟩ := sq_ex hf
      have hs73 : RgS σ71 := by rw [e72]; exact RgS_hup hs (hs _ _ _)
      refine V_iast (n := 320) (q := 158) hC iD24 rfl g70 (Rg_wr _) e72 dX7_copy_157 rfl ?_
      refine V_iinc (i := 6) (lv' := [(0, rf G 7 0), (3, iv v3), (4, iv v4), (5, iv v5), (6, iv (wr (v6 + 1)))]) (q := 161) hC 4 rfl [1, 2, 3, 4, 0] (by decide) rfl dX7_copy_158 rfl ?_
      refine V_goto (tgt := 129) hC dX7_copy_161 (by decide) ?_
      refine V_lsub [0, 1, 2, 3, 4] rfl ?_
      exact ih hs73 h3 h4 h5 (Rg_wr _) hf
set_option maxHeartbeats 4000000 in
set_option maxRecDepth 100000 in
theorem tlX7_copy_92 {p : Program} {l : Launch} {e : Env} {s : State} {m : MethodId} {args : Array Value} {below : List Frame} {meth : Method} {c : Code} {G : GT} (hG : GI G) (hC : CX p s m args c cX7_copy 7 RX7 wsX7_copy G (AA G)) (hr : meth.sig.returnType = (some .int)) (hlk : meth.locks = false) {r0 : Int × Hp} : ∀ n : Nat, (∀ {σ : Hp} (hs : RgS σ) {v1 : Int} {v2 : Int} {v3 : Int} {v4 : Int} {v5 : Int} {v6 : Int} (h1 : Rg v1) (h2 : Rg v2) (h3 : Rg v3) (h4 : Rg v4) (h5 : Rg v5) (h6 : Rg v6) (hf : lX7_copy_92 n σ v1 v2 v3 v4 v5 v6 = some r0), VV p l e (headSpec wsX7_copy rmX7_copy).room s m args below meth c (MQ below (QI G r0.1 r0.2) args s 0 0 (AA G)) G (AA G) 0 0 7 σ 92 [(0, rf G 7 0), (1, iv v1), (2, iv v2), (3, iv v3), (4, iv v4), (5, iv v5), (6, iv v6)] []) := by
  intro n
  induction n with
  | zero =>
    exact by intro σ hs v1 v2 v3 v4 v5 v6 h1 h2 h3 h4 h5 h6 hf; exact absurd (show (none : Option (Int × Hp)) = some r0 from hf) (fun z => by cases z)
  | succ n ih =>
    intro σ hs v1 v2 v3 v4 v5 v6 h1 h2 h3 h4 h5 h6 hf
    replace hf := (lX7_copy_92_e0 n σ v1 v2 v3 v4 v5 v6).symm.trans hf
    refine V_iload (k := 6) (q := 94) hC 6 rfl dX7_copy_92 rfl ?_
    refine V_iload (k := 5) (q := 96) hC 5 rfl dX7_copy_94 rfl ?_
    refine V_icmp_ge (tgt := 126) (q := 99) hC h6 h5 dX7_copy_96 (by decide) rfl (fun c57 => ?_) (fun c57 => ?_)
    · replace hf := (if_pos c57).symm.trans hf
      refine V_iconst (q := 127) hC dX7_copy_126 rfl ?_
      refine V_istore (i := 6) (lv' := [(0, rf G 7 0), (1, iv v1), (2, iv v2), (3, iv v3), (4, iv v4), (5, iv v5), (6, iv 0)]) (q := 129) hC [1, 2, 3, 4, 5, 6, 0] (by decide) rfl dX7_copy_127 rfl ?_
      refine V_lsub [0, 3, 4, 5, 6] rfl ?_
      exact (tlX7_copy_129 hG hC hr hlk FU) hs h3 h4 h5 (Rg_c rfl) hf
    · replace hf := (if_neg c57).symm.trans hf
      refine V_aload_n (k := 0) (q := 100) hC 0 rfl dX7_copy_99 rfl ?_
      refine V_getf (T := TX7) (k := 3) (q := 103) hC uX7_copy_7 rfl iD7 rfl (by decide) kX7_copy_f19 rfl dX7_copy_100 rfl ?_
      refine V_iload (k := 6) (q := 105) hC 6 rfl dX7_copy_103 rfl ?_
      refine V_aload_n (k := 0) (q := 106) hC 0 rfl dX7_copy_105 rfl ?_
      refine V_getf (T := TX7) (k := 2) (q := 109) hC uX7_copy_7 rfl iD7 rfl (by decide) kX7_copy_f16 rfl dX7_copy_106 rfl ?_
      refine V_bipush (q := 111) hC (by decide) dX7_copy_109 rfl ?_
      refine V_iload_n (k := 1) (q := 112) hC 1 rfl dX7_copy_111 rfl ?_
      refine V_imul (q := 113) hC dX7_copy_112 rfl ?_
      refine V_iload_n (k := 2) (q := 114) hC 2 rfl dX7_copy_113 rfl ?_
      refine V_iadd (q := 115) hC dX7_copy_114 rfl ?_
      refine V_iload (k := 6) (q := 117) hC 6 rfl dX7_copy_115 rfl ?_
      refine V_iadd (q := 118) hC dX7_copy_117 rfl ?_
      obtain ⟨g58, hf⟩ := gd_some hf
      refine V_iald (n := 320) (q := 119) hC iD24 rfl g58 (Rg_wr _) dX7_copy_118 rfl ?_
      obtain ⟨g59, hf⟩ := gd_some hf
      obtain ⟨σ60, e61, hf⟩ := sq_ex hf
      have hs62 : RgS σ60 := by rw [e61]; exact RgS_hup hs (hs _ _ _)
      refine V_iast (n := 40) (q := 120) hC iD25 rfl g59 h6 e61 dX7_copy_119 rfl ?_
      refine V_iinc (i := 6) (lv' := [(0, rf G 7 0), (1, iv v1), (2, iv v2), (3, iv v3), (4, iv v4), (5, iv v5), (6, iv (wr (v6 + 1)))]) (q := 123) hC 6 rfl [1, 2, 3, 4, 5, 6, 0] (by decide) rfl dX7_copy_120 rfl ?_
      refine V_goto (tgt := 92) hC dX7_copy_123 (by decide) ?_
      refine V_lsub [0, 1, 2, 3, 4, 5, 6] rfl ?_
      exact ih hs62 h1 h2 h3 h4 h5 (Rg_wr _) hf
set_option maxHeartbeats 4000000 in
set_option maxRecDepth 100000 in
theorem sX7_copy (l : Launch) {G : GT} (hG : GI G) {v1 : Int} {v2 : Int} {v3 : Int} {v4 : Int} {v5 : Int} (h1 : Rg v1) (h2 : Rg v2) (h3 : Rg v3) (h4 : Rg v4) (h5 : Rg v5) {σ : Hp} (hs : RgS σ) {r0 : Int × Hp} (hf : fX7_copy σ v1 v2 v3 v4 v5 = some r0) : Cti l G yX7_copy wsX7_copy rmX7_copy [rf G 7 0, iv v1, iv v2, iv v3, iv v4, iv v5] σ r0.1 r0.2 := by
  unfold fX7_copy at hf
  refine Cti_start (lv := [(0, rf G 7 0), (1, iv v1), (2, iv v2), (3, iv v3), (4, iv v4), (5, iv v5)]) (ret := (some .int)) (by decide +kernel) rfl hG (Nat.le_of_ble_eq_true rfl) rfl (fun p e s m args below meth c hC hr hlk => ?_)
  refine V_iload_n (k := 1) (q := 1) hC 1 rfl dX7_copy_0 rfl ?_
  refine V_csi (st := []) (q := 4) hC (sX7_isRow l hG h1 hs) (va_cwS 1 hC.2.2.2.2.1 gX7_copy_X7_isRow rfl rfl rfl (by decide +kernel) ⟨Nat.le_of_ble_eq_true rfl, Nat.le_of_ble_eq_true rfl⟩) rfl rfl (Nat.le_of_ble_eq_true rfl) dX7_copy_1 rfl ⟨Nat.zero_le _, Nat.zero_le _⟩ (fun hr1 _ => ?_)
  refine V_if_eq (tgt := 14) (q := 7) hC hr1 dX7_copy_4 (by decide) rfl (fun c2 => ?_) (fun c2 => ?_)
  · replace hf := (if_pos c2).symm.trans hf
    refine V_ldc (q := 16) (n := (-1000001)) hC (by decide) kX7_copy_c61 dX7_copy_14 rfl ?_
    exact V_iret hC hr hlk (re_1 hf) (re_2 hf) (Rg_c rfl) hs dX7_copy_16
  · replace hf := (if_neg c2).symm.trans hf
    refine V_iload_n (k := 3) (q := 8) hC 3 rfl dX7_copy_7 rfl ?_
    refine V_csi (st := []) (q := 11) hC (sX7_isRow l hG h3 hs) (va_cwS 1 hC.2.2.2.2.1 gX7_copy_X7_isRow rfl rfl rfl (by decide +kernel) ⟨Nat.le_of_ble_eq_true rfl, Nat.le_of_ble_eq_true rfl⟩) rfl rfl (Nat.le_of_ble_eq_true rfl) dX7_copy_8 rfl ⟨Nat.zero_le _, Nat.zero_le _⟩ (fun hr3 _ => ?_)
    refine V_if_ne (tgt := 17) (q := 14) hC hr3 dX7_copy_11 (by decide) rfl (fun c4 => ?_) (fun c4 => ?_)
    · replace hf := (if_neg c4).symm.trans hf
      refine V_aload_n (k := 0) (q := 18) hC 0 rfl dX7_copy_17 rfl ?_
      refine V_iload_n (k := 1) (q := 19) hC 1 rfl dX7_copy_18 rfl ?_
      obtain ⟨r5, σ6, hc7, hf⟩ := cl_some hf
      refine V_cvi (st := []) (q := 22) (x0 := r5) (σ0 := σ6) hC (sX7_isMissing l hG h1 hs hc7) (cwV 1 hC.2.2.2.2.1 gX7_copy_X7_isMissing rfl rfl rfl (by decide +kernel) ⟨Nat.le_of_ble_eq_true rfl, Nat.le_of_ble_eq_true rfl⟩) ⟨_, rfl, rfl⟩ iD7 (fun _ => ⟨_, rfl⟩) rfl rfl (Nat.le_of_ble_eq_true rfl) dX7_copy_19 rfl ⟨Nat.zero_le _, Nat.zero_le _⟩ (fun hr8 hs9 => ?_)
      refine V_if_ne (tgt := 33) (q := 25) hC hr8 dX7_copy_22 (by decide) rfl (fun c10 => ?_) (fun c10 => ?_)
      · replace hf := (if_neg c10).symm.trans hf
        refine V_aload_n (k := 0) (q := 34) hC 0 rfl dX7_copy_33 rfl ?_
        refine V_iconst (q := 35) hC dX7_copy_34 rfl ?_
        obtain ⟨r11, σ12, hc13, hf⟩ := cl_some hf
        refine V_cvi (st := []) (q := 38) (x0 := r11) (σ0 := σ12) hC (sX7_found l hG (Rg_c rfl) hs9 hc13) (cwV 1 hC.2.2.2.2.1 gX7_copy_X7_found rfl rfl rfl (by decide +kernel) ⟨Nat.le_of_ble_eq_true rfl, Nat.le_of_ble_eq_true rfl⟩) ⟨_, rfl, rfl⟩ iD7 (fun _ => ⟨_, rfl⟩) rfl rfl (Nat.le_of_ble_eq_true rfl) dX7_copy_35 rfl ⟨Nat.zero_le _, Nat.zero_le _⟩ (fun hr14 hs15 => ?_)
        exact V_iret hC hr hlk (re_1 hf) (re_2 hf) hr14 hs15 dX7_copy_38
      · replace hf := (if_pos c10).symm.trans hf
        refine V_aload_n (k := 0) (q := 26) hC 0 rfl dX7_copy_25 rfl ?_
        refine V_iload_n (k := 3) (q := 27) hC 3 rfl dX7_copy_26 rfl ?_
        obtain ⟨r16, σ17, hc18, hf⟩ := cl_some hf
        refine V_cvi (st := []) (q := 30) (x0 := r16) (σ0 := σ17) hC (sX7_isMissing l hG h3 hs9 hc18) (cwV 1 hC.2.2.2.2.1 gX7_copy_X7_isMissing rfl rfl rfl (by decide +kernel) ⟨Nat.le_of_ble_eq_true rfl, Nat.le_of_ble_eq_true rfl⟩) ⟨_, rfl, rfl⟩ iD7 (fun _ => ⟨_, rfl⟩) rfl rfl (Nat.le_of_ble_eq_true rfl) dX7_copy_27 rfl ⟨Nat.zero_le _, Nat.zero_le _⟩ (fun hr19 hs20 => ?_)
        refine V_if_eq (tgt := 39) (q := 33) hC hr19 dX7_copy_30 (by decide) rfl (fun c21 => ?_) (fun c21 => ?_)
        · replace hf := (if_pos c21).symm.trans hf
          refine V_aload_n (k := 0) (q := 40) hC 0 rfl dX7_copy_39 rfl ?_
          refine V_getf (T := TX7) (k := 0) (q := 43) hC uX7_copy_7 rfl iD7 rfl (by decide) kX7_copy_f7 rfl dX7_copy_40 rfl ?_
          refine V_iload_n (k := 1) (q := 44) hC 1 rfl dX7_copy_43 rfl ?_
          obtain ⟨g22, hf⟩ := gd_some hf
          refine V_iald (n := 8) (q := 45) hC iD22 rfl g22 h1 dX7_copy_44 rfl ?_
          refine V_aload_n (k := 0) (q := 46) hC 0 rfl dX7_copy_45 rfl ?_
          refine V_getf (T := TX7) (k := 0) (q := 49) hC uX7_copy_7 rfl iD7 rfl (by decide) kX7_copy_f7 rfl dX7_copy_46 rfl ?_
          refine V_iload_n (k := 3) (q := 50) hC 3 rfl dX7_copy_49 rfl ?_
          obtain ⟨g23, hf⟩ := gd_some hf
          refine V_iald (n := 8) (q := 51) hC iD22 rfl g23 h3 dX7_copy_50 rfl ?_
          refine V_icmp_eq (tgt := 60) (q := 54) hC (hs20 _ _ _) (hs20 _ _ _) dX7_copy_51 (by decide) rfl (fun c24 => ?_) (fun c24 => ?_)
          · replace hf := (if_pos c24).symm.trans hf
            refine V_aload_n (k := 0) (q := 61) hC 0 rfl dX7_copy_60 rfl ?_
            refine V_iload_n (k := 1) (q := 62) hC 1 rfl dX7_copy_61 rfl ?_
            refine V_iload_n (k := 2) (q := 63) hC 2 rfl dX7_copy_62 rfl ?_
            refine V_iload (k := 5) (q := 65) hC 5 rfl dX7_copy_63 rfl ?_
            obtain ⟨r25, σ26, hc27, hf⟩ := cl_some hf
            refine V_cvi (st := []) (q := 68) (x0 := r25) (σ0 := σ26) hC (sX7_isPart l hG h1 h2 h5 hs20 hc27) (cwV 3 hC.2.2.2.2.1 gX7_copy_X7_isPart rfl rfl rfl (by decide +kernel) ⟨Nat.le_of_ble_eq_true rfl, Nat.le_of_ble_eq_true rfl⟩) ⟨_, rfl, rfl⟩ iD7 (fun _ => ⟨_, rfl⟩) rfl rfl (Nat.le_of_ble_eq_true rfl) dX7_copy_65 rfl ⟨Nat.zero_le _, Nat.zero_le _⟩ (fun hr28 hs29 => ?_)
            refine V_if_eq (tgt := 83) (q := 71) hC hr28 dX7_copy_68 (by decide) rfl (fun c30 => ?_) (fun c30 => ?_)
            · replace hf := (if_pos c30).symm.trans hf
              refine V_aload_n (k := 0) (q := 84) hC 0 rfl dX7_copy_83 rfl ?_
              refine V_iconst (q := 85) hC dX7_copy_84 rfl ?_
              obtain ⟨r31, σ32, hc33, hf⟩ := cl_some hf
              refine V_cvi (st := []) (q := 88) (x0 := r31) (σ0 := σ32) hC (sX7_found l hG (Rg_c rfl) hs29 hc33) (cwV 1 hC.2.2.2.2.1 gX7_copy_X7_found rfl rfl rfl (by decide +kernel) ⟨Nat.le_of_ble_eq_true rfl, Nat.le_of_ble_eq_true rfl⟩) ⟨_, rfl, rfl⟩ iD7 (fun _ => ⟨_, rfl⟩) rfl rfl (Nat.le_of_ble_eq_true rfl) dX7_copy_85 rfl ⟨Nat.zero_le _, Nat.zero_le _⟩ (fun hr34 hs35 => ?_)
              exact V_iret hC hr hlk (re_1 hf) (re_2 hf) hr34 hs35 dX7_copy_88
            · replace hf := (if_neg c30).symm.trans hf
              refine V_aload_n (k := 0) (q := 72) hC 0 rfl dX7_copy_71 rfl ?_
              refine V_iload_n (k := 3) (q := 73) hC 3 rfl dX7_copy_72 rfl ?_
              refine V_iload (k := 4) (q := 75) hC 4 rfl dX7_copy_73 rfl ?_
              refine V_iload (k := 5) (q := 77) hC 5 rfl dX7_copy_75 rfl ?_
              obtain ⟨r36, σ37, hc38, hf⟩ := cl_some hf
              refine V_cvi (st := []) (q := 80) (x0 := r36) (σ0 := σ37) hC (sX7_isPart l hG h3 h4 h5 hs29 hc38) (cwV 3 hC.2.2.2.2.1 gX7_copy_X7_isPart rfl rfl rfl (by decide +kernel) ⟨Nat.le_of_ble_eq_true rfl, Nat.le_of_ble_eq_true rfl⟩) ⟨_, rfl, rfl⟩ iD7 (fun _ => ⟨_, rfl⟩) rfl rfl (Nat.le_of_ble_eq_true rfl) dX7_copy_77 rfl ⟨Nat.zero_le _, Nat.zero_le _⟩ (fun hr39 hs40 => ?_)
              refine V_if_ne (tgt := 89) (q := 83) hC hr39 dX7_copy_80 (by decide) rfl (fun c41 => ?_) (fun c41 => ?_)
              · replace hf := (if_neg c41).symm.trans hf
                refine V_iconst (q := 90) hC dX7_copy_89 rfl ?_
                refine V_istore (i := 6) (lv' := [(0, rf G 7 0), (1, iv v1), (2, iv v2), (3, iv v3), (4, iv v4), (5, iv v5), (6, iv 0)]) (q := 92) hC [1, 2, 3, 4, 5, 6, 0] (by decide) rfl dX7_copy_90 rfl ?_
                refine V_lsub [0, 1, 2, 3, 4, 5, 6] rfl ?_
                exact (tlX7_copy_92 hG hC hr hlk FU) hs40 h1 h2 h3 h4 h5 (Rg_c rfl) hf
              · replace hf := (if_pos c41).symm.trans hf
                refine V_aload_n (k := 0) (q := 84) hC 0 rfl dX7_copy_83 rfl ?_
                refine V_iconst (q := 85) hC dX7_copy_84 rfl ?_
                obtain ⟨r42, σ43, hc44, hf⟩ := cl_some hf
                refine V_cvi (st := []) (q := 88) (x0 := r42) (σ0 := σ43) hC (sX7_found l hG (Rg_c rfl) hs40 hc44) (cwV 1 hC.2.2.2.2.1 gX7_copy_X7_found rfl rfl rfl (by decide +kernel) ⟨Nat.le_of_ble_eq_true rfl, Nat.le_of_ble_eq_true rfl⟩) ⟨_, rfl, rfl⟩ iD7 (fun _ => ⟨_, rfl⟩) rfl rfl (Nat.le_of_ble_eq_true rfl) dX7_copy_85 rfl ⟨Nat.zero_le _, Nat.zero_le _⟩ (fun hr45 hs46 => ?_)
                exact V_iret hC hr hlk (re_1 hf) (re_2 hf) hr45 hs46 dX7_copy_88
          · replace hf := (if_neg c24).symm.trans hf
            refine V_aload_n (k := 0) (q := 55) hC 0 rfl dX7_copy_54 rfl ?_
            refine V_iconst (q := 56) hC dX7_copy_55 rfl ?_
            obtain ⟨r47, σ48, hc49, hf⟩ := cl_some hf
            refine V_cvi (st := []) (q := 59) (x0 := r47) (σ0 := σ48) hC (sX7_found l hG (Rg_c rfl) hs20 hc49) (cwV 1 hC.2.2.2.2.1 gX7_copy_X7_found rfl rfl rfl (by decide +kernel) ⟨Nat.le_of_ble_eq_true rfl, Nat.le_of_ble_eq_true rfl⟩) ⟨_, rfl, rfl⟩ iD7 (fun _ => ⟨_, rfl⟩) rfl rfl (Nat.le_of_ble_eq_true rfl) dX7_copy_56 rfl ⟨Nat.zero_le _, Nat.zero_le _⟩ (fun hr50 hs51 => ?_)
            exact V_iret hC hr hlk (re_1 hf) (re_2 hf) hr50 hs51 dX7_copy_59
        · replace hf := (if_neg c21).symm.trans hf
          refine V_aload_n (k := 0) (q := 34) hC 0 rfl dX7_copy_33 rfl ?_
          refine V_iconst (q := 35) hC dX7_copy_34 rfl ?_
          obtain ⟨r52, σ53, hc54, hf⟩ := cl_some hf
          refine V_cvi (st := []) (q := 38) (x0 := r52) (σ0 := σ53) hC (sX7_found l hG (Rg_c rfl) hs20 hc54) (cwV 1 hC.2.2.2.2.1 gX7_copy_X7_found rfl rfl rfl (by decide +kernel) ⟨Nat.le_of_ble_eq_true rfl, Nat.le_of_ble_eq_true rfl⟩) ⟨_, rfl, rfl⟩ iD7 (fun _ => ⟨_, rfl⟩) rfl rfl (Nat.le_of_ble_eq_true rfl) dX7_copy_35 rfl ⟨Nat.zero_le _, Nat.zero_le _⟩ (fun hr55 hs56 => ?_)
          exact V_iret hC hr hlk (re_1 hf) (re_2 hf) hr55 hs56 dX7_copy_38
    · replace hf := (if_pos c4).symm.trans hf
      refine V_ldc (q := 16) (n := (-1000001)) hC (by decide) kX7_copy_c61 dX7_copy_14 rfl ?_
      exact V_iret hC hr hlk (re_1 hf) (re_2 hf) (Rg_c rfl) hs dX7_copy_16
/-! X7_drop -/
theorem kX7_drop_f7 : Cond.fieldLink RX7 7 "BarkNamesModel" "lane" "[I" ∈ wsX7_drop := by decide +kernel
theorem uX7_drop_7 : ∀ w ∈ u_ws RX7 TX7 22, w ∈ wsX7_drop := by decide +kernel
theorem kX7_drop_c47 : Cond.constant RX7 47 (-1000000) ∈ wsX7_drop := by decide +kernel
theorem kX7_drop_f13 : Cond.fieldLink RX7 13 "BarkNamesModel" "many" "[I" ∈ wsX7_drop := by decide +kernel
theorem kX7_drop_c61 : Cond.constant RX7 61 (-1000001) ∈ wsX7_drop := by decide +kernel
abbrev rmX7_drop : Room := { frames := 2, cells := 0, slots := 0, locals := 42 }
set_option maxHeartbeats 4000000 in
set_option maxRecDepth 100000 in
theorem sX7_drop (l : Launch) {G : GT} (hG : GI G) {v1 : Int} (h1 : Rg v1) {σ : Hp} (hs : RgS σ) {r0 : Int × Hp} (hf : fX7_drop σ v1 = some r0) : Cti l G yX7_drop wsX7_drop rmX7_drop [rf G 7 0, iv v1] σ r0.1 r0.2 := by
  unfold fX7_drop at hf
  refine Cti_start (lv := [(0, rf G 7 0), (1, iv v1)]) (ret := (some .int)) (by decide +kernel) rfl hG (Nat.le_of_ble_eq_true rfl) rfl (fun p e s m args below meth c hC hr hlk => ?_)
  refine V_iload_n (k := 1) (q := 1) hC 1 rfl dX7_drop_0 rfl ?_
  refine V_csi (st := []) (q := 4) hC (sX7_isRow l hG h1 hs) (va_cwS 1 hC.2.2.2.2.1 gX7_drop_X7_isRow rfl rfl rfl (by decide +kernel) ⟨Nat.le_of_ble_eq_true rfl, Nat.le_of_ble_eq_true rfl⟩) rfl rfl (Nat.le_of_ble_eq_true rfl) dX7_drop_1 rfl ⟨Nat.zero_le _, Nat.zero_le _⟩ (fun hr1 _ => ?_)
  refine V_if_ne (tgt := 10) (q := 7) hC hr1 dX7_drop_4 (by decide) rfl (fun c2 => ?_) (fun c2 => ?_)
  · replace hf := (if_neg c2).symm.trans hf
    refine V_aload_n (k := 0) (q := 11) hC 0 rfl dX7_drop_10 rfl ?_
    refine V_iload_n (k := 1) (q := 12) hC 1 rfl dX7_drop_11 rfl ?_
    obtain ⟨r3, σ4, hc5, hf⟩ := cl_some hf
    refine V_cvi (st := []) (q := 15) (x0 := r3) (σ0 := σ4) hC (sX7_isMissing l hG h1 hs hc5) (cwV 1 hC.2.2.2.2.1 gX7_drop_X7_isMissing rfl rfl rfl (by decide +kernel) ⟨Nat.le_of_ble_eq_true rfl, Nat.le_of_ble_eq_true rfl⟩) ⟨_, rfl, rfl⟩ iD7 (fun _ => ⟨_, rfl⟩) rfl rfl (Nat.le_of_ble_eq_true rfl) dX7_drop_12 rfl ⟨Nat.zero_le _, Nat.zero_le _⟩ (fun hr6 hs7 => ?_)
    refine V_if_eq (tgt := 24) (q := 18) hC hr6 dX7_drop_15 (by decide) rfl (fun c8 => ?_) (fun c8 => ?_)
    · replace hf := (if_pos c8).symm.trans hf
      refine V_aload_n (k := 0) (q := 25) hC 0 rfl dX7_drop_24 rfl ?_
      refine V_getf (T := TX7) (k := 0) (q := 28) hC uX7_drop_7 rfl iD7 rfl (by decide) kX7_drop_f7 rfl dX7_drop_25 rfl ?_
      refine V_iload_n (k := 1) (q := 29) hC 1 rfl dX7_drop_28 rfl ?_
      refine V_ldc (q := 31) (n := (-1000000)) hC (by decide) kX7_drop_c47 dX7_drop_29 rfl ?_
      obtain ⟨g9, hf⟩ := gd_some hf
      obtain ⟨σ10, e11, hf⟩ := sq_ex hf
      have hs12 : RgS σ10 := by rw [e11]; exact RgS_hup hs7 (Rg_c rfl)
      refine V_iast (n := 8) (q := 32) hC iD22 rfl g9 h1 e11 dX7_drop_31 rfl ?_
      refine V_aload_n (k := 0) (q := 33) hC 0 rfl dX7_drop_32 rfl ?_
      refine V_aload_n (k := 0) (q := 34) hC 0 rfl dX7_drop_33 rfl ?_
      refine V_getf (T := TX7) (k := 1) (q := 37) hC uX7_drop_7 rfl iD7 rfl (by decide) kX7_drop_f13 rfl dX7_drop_34 rfl ?_
      refine V_iload_n (k := 1) (q := 38) hC 1 rfl dX7_drop_37 rfl ?_
      obtain ⟨g13, hf⟩ := gd_some hf
      refine V_iald (n := 8) (q := 39) hC iD23 rfl g13 h1 dX7_drop_38 rfl ?_
      obtain ⟨r14, σ15, hc16, hf⟩ := cl_some hf
      refine V_cvi (st := []) (q := 42) (x0 := r14) (σ0 := σ15) hC (sX7_well l hG (hs12 _ _ _) hs12 hc16) (cwV 1 hC.2.2.2.2.1 gX7_drop_X7_well rfl rfl rfl (by decide +kernel) ⟨Nat.le_of_ble_eq_true rfl, Nat.le_of_ble_eq_true rfl⟩) ⟨_, rfl, rfl⟩ iD7 (fun _ => ⟨_, rfl⟩) rfl rfl (Nat.le_of_ble_eq_true rfl) dX7_drop_39 rfl ⟨Nat.zero_le _, Nat.zero_le _⟩ (fun hr17 hs18 => ?_)
      exact V_iret hC hr hlk (re_1 hf) (re_2 hf) hr17 hs18 dX7_drop_42
    · replace hf := (if_neg c8).symm.trans hf
      refine V_aload_n (k := 0) (q := 19) hC 0 rfl dX7_drop_18 rfl ?_
      refine V_iconst (q := 20) hC dX7_drop_19 rfl ?_
      obtain ⟨r19, σ20, hc21, hf⟩ := cl_some hf
      refine V_cvi (st := []) (q := 23) (x0 := r19) (σ0 := σ20) hC (sX7_found l hG (Rg_c rfl) hs7 hc21) (cwV 1 hC.2.2.2.2.1 gX7_drop_X7_found rfl rfl rfl (by decide +kernel) ⟨Nat.le_of_ble_eq_true rfl, Nat.le_of_ble_eq_true rfl⟩) ⟨_, rfl, rfl⟩ iD7 (fun _ => ⟨_, rfl⟩) rfl rfl (Nat.le_of_ble_eq_true rfl) dX7_drop_20 rfl ⟨Nat.zero_le _, Nat.zero_le _⟩ (fun hr22 hs23 => ?_)
      exact V_iret hC hr hlk (re_1 hf) (re_2 hf) hr22 hs23 dX7_drop_23
  · replace hf := (if_pos c2).symm.trans hf
    refine V_ldc (q := 9) (n := (-1000001)) hC (by decide) kX7_drop_c61 dX7_drop_7 rfl ?_
    exact V_iret hC hr hlk (re_1 hf) (re_2 hf) (Rg_c rfl) hs dX7_drop_9
/-! X7_feed -/
theorem kX7_feed_f79 : Cond.fieldLink RX7 79 "BarkNamesModel" "taped" "I" ∈ wsX7_feed := by decide +kernel
theorem uX7_feed_7 : ∀ w ∈ u_ws RX7 TX7 22, w ∈ wsX7_feed := by decide +kernel
theorem kX7_feed_f22 : Cond.fieldLink RX7 22 "BarkNamesModel" "tape" "[I" ∈ wsX7_feed := by decide +kernel
theorem kX7_feed_c82 : Cond.constant RX7 82 (-1000003) ∈ wsX7_feed := by decide +kernel
theorem kX7_feed_c61 : Cond.constant RX7 61 (-1000001) ∈ wsX7_feed := by decide +kernel
abbrev rmX7_feed : Room := { frames := 1, cells := 0, slots := 0, locals := 22 }
set_option maxHeartbeats 4000000 in
set_option maxRecDepth 100000 in
theorem sX7_feed (l : Launch) {G : GT} (hG : GI G) {v1 : Int} (h1 : Rg v1) {σ : Hp} (hs : RgS σ) {r0 : Int × Hp} (hf : fX7_feed σ v1 = some r0) : Cti l G yX7_feed wsX7_feed rmX7_feed [rf G 7 0, iv v1] σ r0.1 r0.2 := by
  unfold fX7_feed at hf
  refine Cti_start (lv := [(0, rf G 7 0), (1, iv v1)]) (ret := (some .int)) (by decide +kernel) rfl hG (Nat.le_of_ble_eq_true rfl) rfl (fun p e s m args below meth c hC hr hlk => ?_)
  refine V_iload_n (k := 1) (q := 1) hC 1 rfl dX7_feed_0 rfl ?_
  refine V_iconst (q := 2) hC dX7_feed_1 rfl ?_
  refine V_sipush (q := 5) hC (by decide) dX7_feed_2 rfl ?_
  refine V_csi (st := []) (q := 8) hC (sX7_in l hG h1 (Rg_c rfl) (Rg_c rfl) hs) (va_cwS 3 hC.2.2.2.2.1 gX7_feed_X7_in rfl rfl rfl (by decide +kernel) ⟨Nat.le_of_ble_eq_true rfl, Nat.le_of_ble_eq_true rfl⟩) rfl rfl (Nat.le_of_ble_eq_true rfl) dX7_feed_5 rfl ⟨Nat.zero_le _, Nat.zero_le _⟩ (fun hr1 _ => ?_)
  refine V_if_ne (tgt := 14) (q := 11) hC hr1 dX7_feed_8 (by decide) rfl (fun c2 => ?_) (fun c2 => ?_)
  · replace hf := (if_neg c2).symm.trans hf
    refine V_aload_n (k := 0) (q := 15) hC 0 rfl dX7_feed_14 rfl ?_
    refine V_getf (T := TX7) (k := 6) (q := 18) hC uX7_feed_7 rfl iD7 rfl (by decide) kX7_feed_f79 rfl dX7_feed_15 rfl ?_
    refine V_sipush (q := 21) hC (by decide) dX7_feed_18 rfl ?_
    refine V_icmp_ne (tgt := 27) (q := 24) hC (hs _ _ _) (Rg_c rfl) dX7_feed_21 (by decide) rfl (fun c3 => ?_) (fun c3 => ?_)
    · replace hf := (if_neg c3).symm.trans hf
      refine V_aload_n (k := 0) (q := 28) hC 0 rfl dX7_feed_27 rfl ?_
      refine V_getf (T := TX7) (k := 5) (q := 31) hC uX7_feed_7 rfl iD7 rfl (by decide) kX7_feed_f22 rfl dX7_feed_28 rfl ?_
      refine V_aload_n (k := 0) (q := 32) hC 0 rfl dX7_feed_31 rfl ?_
      refine V_getf (T := TX7) (k := 6) (q := 35) hC uX7_feed_7 rfl iD7 rfl (by decide) kX7_feed_f79 rfl dX7_feed_32 rfl ?_
      refine V_iload_n (k := 1) (q := 36) hC 1 rfl dX7_feed_35 rfl ?_
      obtain ⟨g4, hf⟩ := gd_some hf
      obtain ⟨σ5, e6, hf⟩ := sq_ex hf
      have hs7 : RgS σ5 := by rw [e6]; exact RgS_hup hs h1
      refine V_iast (n := 140) (q := 37) hC iD26 rfl g4 (hs _ _ _) e6 dX7_feed_36 rfl ?_
      refine V_aload_n (k := 0) (q := 38) hC 0 rfl dX7_feed_37 rfl ?_
      refine V_dup (q := 39) hC rfl dX7_feed_38 rfl ?_
      refine V_getf (T := TX7) (k := 6) (q := 42) hC uX7_feed_7 rfl iD7 rfl (by decide) kX7_feed_f79 rfl dX7_feed_39 rfl ?_
      refine V_iconst (q := 43) hC dX7_feed_42 rfl ?_
      refine V_iadd (q := 44) hC dX7_feed_43 rfl ?_
      obtain ⟨σ8, e9, hf⟩ := sq_ex hf
      have hs10 : RgS σ8 := by rw [e9]; exact RgS_hup hs7 (Rg_wr _)
      refine V_putf (T := TX7) (k := 6) (ty := .int) (q := 47) hC uX7_feed_7 rfl tyX7 tyX7_ok nmX7 iD7 rfl (pf_7_6 _ _ _ _ rfl) (by decide) kX7_feed_f79 rfl (by decide +kernel) rfl rfl (Nat.le_of_ble_eq_true rfl) e9 dX7_feed_44 rfl ?_
      refine V_aload_n (k := 0) (q := 48) hC 0 rfl dX7_feed_47 rfl ?_
      refine V_getf (T := TX7) (k := 6) (q := 51) hC uX7_feed_7 rfl iD7 rfl (by decide) kX7_feed_f79 rfl dX7_feed_48 rfl ?_
      exact V_iret hC hr hlk (re_1 hf) (re_2 hf) (hs10 _ _ _) hs10 dX7_feed_51
    · replace hf := (if_pos c3).symm.trans hf
      refine V_ldc (q := 26) (n := (-1000003)) hC (by decide) kX7_feed_c82 dX7_feed_24 rfl ?_
      exact V_iret hC hr hlk (re_1 hf) (re_2 hf) (Rg_c rfl) hs dX7_feed_26
  · replace hf := (if_pos c2).symm.trans hf
    refine V_ldc (q := 13) (n := (-1000001)) hC (by decide) kX7_feed_c61 dX7_feed_11 rfl ?_
    exact V_iret hC hr hlk (re_1 hf) (re_2 hf) (Rg_c rfl) hs dX7_feed_13
/-! X7_byteAt -/
theorem kX7_byteAt_f79 : Cond.fieldLink RX7 79 "BarkNamesModel" "taped" "I" ∈ wsX7_byteAt := by decide +kernel
theorem uX7_byteAt_7 : ∀ w ∈ u_ws RX7 TX7 22, w ∈ wsX7_byteAt := by decide +kernel
theorem kX7_byteAt_f22 : Cond.fieldLink RX7 22 "BarkNamesModel" "tape" "[I" ∈ wsX7_byteAt := by decide +kernel
abbrev rmX7_byteAt : Room := { frames := 0, cells := 0, slots := 0, locals := 0 }
set_option maxHeartbeats 4000000 in
set_option maxRecDepth 100000 in
theorem sX7_byteAt (l : Launch) {G : GT} (hG : GI G) {v1 : Int} (h1 : Rg v1) {σ : Hp} (hs : RgS σ) {r0 : Int × Hp} (hf : fX7_byteAt σ v1 = some r0) : Cti l G yX7_byteAt wsX7_byteAt rmX7_byteAt [rf G 7 0, iv v1] σ r0.1 r0.2 := by
  unfold fX7_byteAt at hf
  refine Cti_start (lv := [(0, rf G 7 0), (1, iv v1)]) (ret := (some .int)) (by decide +kernel) rfl hG (Nat.le_of_ble_eq_true rfl) rfl (fun p e s m args below meth c hC hr hlk => ?_)
  refine V_iload_n (k := 1) (q := 1) hC 1 rfl dX7_byteAt_0 rfl ?_
  refine V_aload_n (k := 0) (q := 2) hC 0 rfl dX7_byteAt_1 rfl ?_
  refine V_getf (T := TX7) (k := 6) (q := 5) hC uX7_byteAt_7 rfl iD7 rfl (by decide) kX7_byteAt_f79 rfl dX7_byteAt_2 rfl ?_
  refine V_icmp_ge (tgt := 17) (q := 8) hC h1 (hs _ _ _) dX7_byteAt_5 (by decide) rfl (fun c1 => ?_) (fun c1 => ?_)
  · replace hf := (if_pos c1).symm.trans hf
    refine V_iconst (q := 18) hC dX7_byteAt_17 rfl ?_
    exact V_iret hC hr hlk (re_1 hf) (re_2 hf) (Rg_c rfl) hs dX7_byteAt_18
  · replace hf := (if_neg c1).symm.trans hf
    refine V_aload_n (k := 0) (q := 9) hC 0 rfl dX7_byteAt_8 rfl ?_
    refine V_getf (T := TX7) (k := 5) (q := 12) hC uX7_byteAt_7 rfl iD7 rfl (by decide) kX7_byteAt_f22 rfl dX7_byteAt_9 rfl ?_
    refine V_iload_n (k := 1) (q := 13) hC 1 rfl dX7_byteAt_12 rfl ?_
    obtain ⟨g2, hf⟩ := gd_some hf
    refine V_iald (n := 140) (q := 14) hC iD26 rfl g2 h1 dX7_byteAt_13 rfl ?_
    refine V_goto (tgt := 18) hC dX7_byteAt_14 (by decide) ?_
    exact V_iret hC hr hlk (re_1 hf) (re_2 hf) (hs _ _ _) hs dX7_byteAt_18
/-! X7_advances -/
theorem kX7_advances_f83 : Cond.fieldLink RX7 83 "BarkNamesModel" "at" "I" ∈ wsX7_advances := by decide +kernel
theorem uX7_advances_7 : ∀ w ∈ u_ws RX7 TX7 22, w ∈ wsX7_advances := by decide +kernel
theorem kX7_advances_f86 : Cond.fieldLink RX7 86 "BarkNamesModel" "start" "I" ∈ wsX7_advances := by decide +kernel
theorem kX7_advances_f92 : Cond.fieldLink RX7 92 "BarkNamesModel" "value" "I" ∈ wsX7_advances := by decide +kernel
theorem kX7_advances_f95 : Cond.fieldLink RX7 95 "BarkNamesModel" "token" "I" ∈ wsX7_advances := by decide +kernel
abbrev rmX7_advances : Room := { frames := 1, cells := 0, slots := 0, locals := 22 }
set_option maxHeartbeats 4000000 in
set_option maxRecDepth 100000 in
theorem tlX7_advances_38 {p : Program} {l : Launch} {e : Env} {s : State} {m : MethodId} {args : Array Value} {below : List Frame} {meth : Method} {c : Code} {G : GT} (hG : GI G) (hC : CX p s m args c cX7_advances 2 RX7 wsX7_advances G (AA G)) (hr : meth.sig.returnType = none) (hlk : meth.locks = false) {r0 : Int × Hp} : ∀ n : Nat, (∀ {σ : Hp} (hs : RgS σ) (hf : lX7_advances_38 n 0 σ 0 = some r0), VV p l e (headSpec wsX7_advances rmX7_advances).room s m args below meth c (MQ below (QV G r0.2) args s 0 0 (AA G)) G (AA G) 0 0 2 σ 38 [(0, rf G 7 0)] []) ∧ (∀ {σ : Hp} (hs : RgS σ) {w0 : Int} (hw0 : Rg w0) (hf : lX7_advances_38 n 1 σ w0 = some r0), VV p l e (headSpec wsX7_advances rmX7_advances).room s m args below meth c (MQ below (QV G r0.2) args s 0 0 (AA G)) G (AA G) 0 0 2 σ 96 [(0, rf G 7 0)] [iv w0, rf G 7 0]) := by
  intro n
  induction n with
  | zero =>
    exact ⟨by intro σ hs  hf; exact absurd (show (none : Option (Int × Hp)) = some r0 from hf) (fun z => by cases z), by intro σ hs w0 hw0 hf; exact absurd (show (none : Option (Int × Hp)) = some r0 from hf) (fun z => by cases z)⟩
  | succ n ih =>
    refine ⟨?_, ?_⟩
    · intro σ hs  hf
      replace hf := (lX7_advances_38_e0 n σ 0).symm.trans hf
      refine V_aload_n (k := 0) (q := 39) hC 0 rfl dX7_advances_38 rfl ?_
      refine V_aload_n (k := 0) (q := 40) hC 0 rfl dX7_advances_39 rfl ?_
      refine V_getf (T := TX7) (k := 9) (q := 43) hC uX7_advances_7 rfl iD7 rfl (by decide) kX7_advances_f83 rfl dX7_advances_40 rfl ?_
      obtain ⟨r22, σ23, hc24, hf⟩ := cl_some hf
      refine V_cvi (st := []) (q := 46) (x0 := r22) (σ0 := σ23) hC (sX7_byteAt l hG (hs _ _ _) hs hc24) (cwV 1 hC.2.2.2.2.1 gX7_advances_X7_byteAt rfl rfl rfl (by decide +kernel) ⟨Nat.le_of_ble_eq_true rfl, Nat.le_of_ble_eq_true rfl⟩) ⟨_, rfl, rfl⟩ iD7 (fun _ => ⟨_, rfl⟩) rfl rfl (Nat.le_of_ble_eq_true rfl) dX7_advances_43 rfl ⟨Nat.zero_le _, Nat.zero_le _⟩ (fun hr25 hs26 => ?_)
      refine V_bipush (q := 48) hC (by decide) dX7_advances_46 rfl ?_
      refine V_bipush (q := 50) hC (by decide) dX7_advances_48 rfl ?_
      refine V_csi (st := []) (q := 53) hC (sX7_in l hG hr25 (Rg_c rfl) (Rg_c rfl) hs26) (va_cwS 3 hC.2.2.2.2.1 gX7_advances_X7_in rfl rfl rfl (by decide +kernel) ⟨Nat.le_of_ble_eq_true rfl, Nat.le_of_ble_eq_true rfl⟩) rfl rfl (Nat.le_of_ble_eq_true rfl) dX7_advances_50 rfl ⟨Nat.zero_le _, Nat.zero_le _⟩ (fun hr27 _ => ?_)
      refine V_if_eq (tgt := 112) (q := 56) hC hr27 dX7_advances_53 (by decide) rfl (fun c28 => ?_) (fun c28 => ?_)
      · replace hf := (if_pos c28).symm.trans hf
        refine V_aload_n (k := 0) (q := 113) hC 0 rfl dX7_advances_112 rfl ?_
        refine V_aload_n (k := 0) (q := 114) hC 0 rfl dX7_advances_113 rfl ?_
        refine V_getf (T := TX7) (k := 9) (q := 117) hC uX7_advances_7 rfl iD7 rfl (by decide) kX7_advances_f83 rfl dX7_advances_114 rfl ?_
        refine V_aload_n (k := 0) (q := 118) hC 0 rfl dX7_advances_117 rfl ?_
        refine V_getf (T := TX7) (k := 10) (q := 121) hC uX7_advances_7 rfl iD7 rfl (by decide) kX7_advances_f86 rfl dX7_advances_118 rfl ?_
        refine V_isub (q := 122) hC dX7_advances_121 rfl ?_
        refine V_iconst (q := 123) hC dX7_advances_122 rfl ?_
        refine V_icmp_ge (tgt := 130) (q := 126) hC (Rg_wr _) (Rg_c rfl) dX7_advances_123 (by decide) rfl (fun c29 => ?_) (fun c29 => ?_)
        · replace hf := (if_pos c29).symm.trans hf
          refine V_iconst (q := 131) hC dX7_advances_130 rfl ?_
          obtain ⟨σ30, e31, hf⟩ := sq_ex hf
          have hs32 : RgS σ30 := by rw [e31]; exact RgS_hup hs26 (Rg_c rfl)
          refine V_putf (T := TX7) (k := 11) (ty := .int) (q := 134) hC uX7_advances_7 rfl tyX7 tyX7_ok nmX7 iD7 rfl (pf_7_11 _ _ _ _ rfl) (by decide) kX7_advances_f95 rfl (by decide +kernel) rfl rfl (Nat.le_of_ble_eq_true rfl) e31 dX7_advances_131 rfl ?_
          exact V_vret hC hr hlk (re_2 hf) hs32 dX7_advances_134
        · replace hf := (if_neg c29).symm.trans hf
          refine V_iconst (q := 127) hC dX7_advances_126 rfl ?_
          refine V_goto (tgt := 131) hC dX7_advances_127 (by decide) ?_
          obtain ⟨σ33, e34, hf⟩ := sq_ex hf
          have hs35 : RgS σ33 := by rw [e34]; exact RgS_hup hs26 (Rg_c rfl)
          refine V_putf (T := TX7) (k := 11) (ty := .int) (q := 134) hC uX7_advances_7 rfl tyX7 tyX7_ok nmX7 iD7 rfl (pf_7_11 _ _ _ _ rfl) (by decide) kX7_advances_f95 rfl (by decide +kernel) rfl rfl (Nat.le_of_ble_eq_true rfl) e34 dX7_advances_131 rfl ?_
          exact V_vret hC hr hlk (re_2 hf) hs35 dX7_advances_134
      · replace hf := (if_neg c28).symm.trans hf
        refine V_aload_n (k := 0) (q := 57) hC 0 rfl dX7_advances_56 rfl ?_
        refine V_aload_n (k := 0) (q := 58) hC 0 rfl dX7_advances_57 rfl ?_
        refine V_getf (T := TX7) (k := 9) (q := 61) hC uX7_advances_7 rfl iD7 rfl (by decide) kX7_advances_f83 rfl dX7_advances_58 rfl ?_
        refine V_aload_n (k := 0) (q := 62) hC 0 rfl dX7_advances_61 rfl ?_
        refine V_getf (T := TX7) (k := 10) (q := 65) hC uX7_advances_7 rfl iD7 rfl (by decide) kX7_advances_f86 rfl dX7_advances_62 rfl ?_
        refine V_isub (q := 66) hC dX7_advances_65 rfl ?_
        refine V_iconst (q := 67) hC dX7_advances_66 rfl ?_
        refine V_icmp_ge (tgt := 92) (q := 70) hC (Rg_wr _) (Rg_c rfl) dX7_advances_67 (by decide) rfl (fun c36 => ?_) (fun c36 => ?_)
        · replace hf := (if_pos c36).symm.trans hf
          refine V_aload_n (k := 0) (q := 93) hC 0 rfl dX7_advances_92 rfl ?_
          refine V_getf (T := TX7) (k := 12) (q := 96) hC uX7_advances_7 rfl iD7 rfl (by decide) kX7_advances_f92 rfl dX7_advances_93 rfl ?_
          refine V_lsub [0] rfl ?_
          exact ih.2 hs26 (hs26 _ _ _) hf
        · replace hf := (if_neg c36).symm.trans hf
          refine V_bipush (q := 72) hC (by decide) dX7_advances_70 rfl ?_
          refine V_aload_n (k := 0) (q := 73) hC 0 rfl dX7_advances_72 rfl ?_
          refine V_getf (T := TX7) (k := 12) (q := 76) hC uX7_advances_7 rfl iD7 rfl (by decide) kX7_advances_f92 rfl dX7_advances_73 rfl ?_
          refine V_imul (q := 77) hC dX7_advances_76 rfl ?_
          refine V_aload_n (k := 0) (q := 78) hC 0 rfl dX7_advances_77 rfl ?_
          refine V_aload_n (k := 0) (q := 79) hC 0 rfl dX7_advances_78 rfl ?_
          refine V_getf (T := TX7) (k := 9) (q := 82) hC uX7_advances_7 rfl iD7 rfl (by decide) kX7_advances_f83 rfl dX7_advances_79 rfl ?_
          obtain ⟨r37, σ38, hc39, hf⟩ := cl_some hf
          refine V_cvi (st := [iv (wr (10 * (σ23 7 0 12))), rf G 7 0]) (q := 85) (x0 := r37) (σ0 := σ38) hC (sX7_byteAt l hG (hs26 _ _ _) hs26 hc39) (cwV 1 hC.2.2.2.2.1 gX7_advances_X7_byteAt rfl rfl rfl (by decide +kernel) ⟨Nat.le_of_ble_eq_true rfl, Nat.le_of_ble_eq_true rfl⟩) ⟨_, rfl, rfl⟩ iD7 (fun _ => ⟨_, rfl⟩) rfl rfl (Nat.le_of_ble_eq_true rfl) dX7_advances_82 rfl ⟨Nat.zero_le _, Nat.zero_le _⟩ (fun hr40 hs41 => ?_)
          refine V_iadd (q := 86) hC dX7_advances_85 rfl ?_
          refine V_bipush (q := 88) hC (by decide) dX7_advances_86 rfl ?_
          refine V_isub (q := 89) hC dX7_advances_88 rfl ?_
          refine V_goto (tgt := 96) hC dX7_advances_89 (by decide) ?_
          refine V_lsub [0] rfl ?_
          exact ih.2 hs41 (Rg_wr _) hf
    · intro σ hs w0 hw0 hf
      replace hf := (lX7_advances_38_e1 n σ w0).symm.trans hf
      obtain ⟨σ52, e53, hf⟩ := sq_ex hf
      have hs54 : RgS σ52 := by rw [e53]; exact RgS_hup hs hw0
      refine V_putf (T := TX7) (k := 12) (ty := .int) (q := 99) hC uX7_advances_7 rfl tyX7 tyX7_ok nmX7 iD7 rfl (pf_7_12 _ _ _ _ rfl) (by decide) kX7_advances_f92 rfl (by decide +kernel) rfl rfl (Nat.le_of_ble_eq_true rfl) e53 dX7_advances_96 rfl ?_
      refine V_aload_n (k := 0) (q := 100) hC 0 rfl dX7_advances_99 rfl ?_
      refine V_dup (q := 101) hC rfl dX7_advances_100 rfl ?_
      refine V_getf (T := TX7) (k := 9) (q := 104) hC uX7_advances_7 rfl iD7 rfl (by decide) kX7_advances_f83 rfl dX7_advances_101 rfl ?_
      refine V_iconst (q := 105) hC dX7_advances_104 rfl ?_
      refine V_iadd (q := 106) hC dX7_advances_105 rfl ?_
      obtain ⟨σ55, e56, hf⟩ := sq_ex hf
      have hs57 : RgS σ55 := by rw [e56]; exact RgS_hup hs54 (Rg_wr _)
      refine V_putf (T := TX7) (k := 9) (ty := .int) (q := 109) hC uX7_advances_7 rfl tyX7 tyX7_ok nmX7 iD7 rfl (pf_7_9 _ _ _ _ rfl) (by decide) kX7_advances_f83 rfl (by decide +kernel) rfl rfl (Nat.le_of_ble_eq_true rfl) e56 dX7_advances_106 rfl ?_
      refine V_goto (tgt := 38) hC dX7_advances_109 (by decide) ?_
      refine V_lsub [0] rfl ?_
      exact ih.1 hs57  hf
set_option maxHeartbeats 4000000 in
set_option maxRecDepth 100000 in
theorem tjX7_advances_180 {p : Program} {l : Launch} {e : Env} {s : State} {m : MethodId} {args : Array Value} {below : List Frame} {meth : Method} {c : Code} {G : GT} (hG : GI G) (hC : CX p s m args c cX7_advances 2 RX7 wsX7_advances G (AA G)) (hr : meth.sig.returnType = none) (hlk : meth.locks = false) {r0 : Int × Hp} {σ : Hp} (hs : RgS σ) {w0 : Int} (hw0 : Rg w0) (hf : jX7_advances_180 σ w0 = some r0) : VV p l e (headSpec wsX7_advances rmX7_advances).room s m args below meth c (MQ below (QV G r0.2) args s 0 0 (AA G)) G (AA G) 0 0 2 σ 180 [(0, rf G 7 0)] [iv w0, rf G 7 0] := by
  unfold jX7_advances_180 at hf
  obtain ⟨σ42, e43, hf⟩ := sq_ex hf
  have hs44 : RgS σ42 := by rw [e43]; exact RgS_hup hs hw0
  refine V_putf (T := TX7) (k := 11) (ty := .int) (q := 183) hC uX7_advances_7 rfl tyX7 tyX7_ok nmX7 iD7 rfl (pf_7_11 _ _ _ _ rfl) (by decide) kX7_advances_f95 rfl (by decide +kernel) rfl rfl (Nat.le_of_ble_eq_true rfl) e43 dX7_advances_180 rfl ?_
  refine V_aload_n (k := 0) (q := 184) hC 0 rfl dX7_advances_183 rfl ?_
  refine V_dup (q := 185) hC rfl dX7_advances_184 rfl ?_
  refine V_getf (T := TX7) (k := 9) (q := 188) hC uX7_advances_7 rfl iD7 rfl (by decide) kX7_advances_f83 rfl dX7_advances_185 rfl ?_
  refine V_aload_n (k := 0) (q := 189) hC 0 rfl dX7_advances_188 rfl ?_
  refine V_getf (T := TX7) (k := 11) (q := 192) hC uX7_advances_7 rfl iD7 rfl (by decide) kX7_advances_f95 rfl dX7_advances_189 rfl ?_
  refine V_if_ne (tgt := 199) (q := 195) hC (hs44 _ _ _) dX7_advances_192 (by decide) rfl (fun c45 => ?_) (fun c45 => ?_)
  · replace hf := (if_neg c45).symm.trans hf
    refine V_iconst (q := 200) hC dX7_advances_199 rfl ?_
    refine V_iadd (q := 201) hC dX7_advances_200 rfl ?_
    obtain ⟨σ46, e47, hf⟩ := sq_ex hf
    have hs48 : RgS σ46 := by rw [e47]; exact RgS_hup hs44 (Rg_wr _)
    refine V_putf (T := TX7) (k := 9) (ty := .int) (q := 204) hC uX7_advances_7 rfl tyX7 tyX7_ok nmX7 iD7 rfl (pf_7_9 _ _ _ _ rfl) (by decide) kX7_advances_f83 rfl (by decide +kernel) rfl rfl (Nat.le_of_ble_eq_true rfl) e47 dX7_advances_201 rfl ?_
    exact V_vret hC hr hlk (re_2 hf) hs48 dX7_advances_204
  · replace hf := (if_pos c45).symm.trans hf
    refine V_iconst (q := 196) hC dX7_advances_195 rfl ?_
    refine V_goto (tgt := 200) hC dX7_advances_196 (by decide) ?_
    refine V_iadd (q := 201) hC dX7_advances_200 rfl ?_
    obtain ⟨σ49, e50, hf⟩ := sq_ex hf
    have hs51 : RgS σ49 := by rw [e50]; exact RgS_hup hs44 (Rg_wr _)
    refine V_putf (T := TX7) (k := 9) (ty := .int) (q := 204) hC uX7_advances_7 rfl tyX7 tyX7_ok nmX7 iD7 rfl (pf_7_9 _ _ _ _ rfl) (by decide) kX7_advances_f83 rfl (by decide +kernel) rfl rfl (Nat.le_of_ble_eq_true rfl) e50 dX7_advances_201 rfl ?_
    exact V_vret hC hr hlk (re_2 hf) hs51 dX7_advances_204
set_option maxHeartbeats 4000000 in
set_option maxRecDepth 100000 in
theorem sX7_advances (l : Launch) {G : GT} (hG : GI G) {σ : Hp} (hs : RgS σ) {r0 : Int × Hp} (hf : fX7_advances σ = some r0) : Ctv l G yX7_advances wsX7_advances rmX7_advances [rf G 7 0] σ r0.2 := by
  unfold fX7_advances at hf
  refine Ctv_start (lv := [(0, rf G 7 0)]) (ret := none) (by decide +kernel) rfl hG (Nat.le_of_ble_eq_true rfl) rfl (fun p e s m args below meth c hC hr hlk => ?_)
  refine V_aload_n (k := 0) (q := 1) hC 0 rfl dX7_advances_0 rfl ?_
  refine V_aload_n (k := 0) (q := 2) hC 0 rfl dX7_advances_1 rfl ?_
  refine V_getf (T := TX7) (k := 9) (q := 5) hC uX7_advances_7 rfl iD7 rfl (by decide) kX7_advances_f83 rfl dX7_advances_2 rfl ?_
  obtain ⟨σ1, e2, hf⟩ := sq_ex hf
  have hs3 : RgS σ1 := by rw [e2]; exact RgS_hup hs (hs _ _ _)
  refine V_putf (T := TX7) (k := 10) (ty := .int) (q := 8) hC uX7_advances_7 rfl tyX7 tyX7_ok nmX7 iD7 rfl (pf_7_10 _ _ _ _ rfl) (by decide) kX7_advances_f86 rfl (by decide +kernel) rfl rfl (Nat.le_of_ble_eq_true rfl) e2 dX7_advances_5 rfl ?_
  refine V_aload_n (k := 0) (q := 9) hC 0 rfl dX7_advances_8 rfl ?_
  refine V_aload_n (k := 0) (q := 10) hC 0 rfl dX7_advances_9 rfl ?_
  refine V_getf (T := TX7) (k := 9) (q := 13) hC uX7_advances_7 rfl iD7 rfl (by decide) kX7_advances_f83 rfl dX7_advances_10 rfl ?_
  obtain ⟨r4, σ5, hc6, hf⟩ := cl_some hf
  refine V_cvi (st := []) (q := 16) (x0 := r4) (σ0 := σ5) hC (sX7_byteAt l hG (hs3 _ _ _) hs3 hc6) (cwV 1 hC.2.2.2.2.1 gX7_advances_X7_byteAt rfl rfl rfl (by decide +kernel) ⟨Nat.le_of_ble_eq_true rfl, Nat.le_of_ble_eq_true rfl⟩) ⟨_, rfl, rfl⟩ iD7 (fun _ => ⟨_, rfl⟩) rfl rfl (Nat.le_of_ble_eq_true rfl) dX7_advances_13 rfl ⟨Nat.zero_le _, Nat.zero_le _⟩ (fun hr7 hs8 => ?_)
  refine V_istore_n (k := 1) (i := 1) (lv' := [(0, rf G 7 0), (1, iv r4)]) (q := 17) hC [1, 0] rfl (by decide) rfl dX7_advances_16 rfl ?_
  refine V_aload_n (k := 0) (q := 18) hC 0 rfl dX7_advances_17 rfl ?_
  refine V_iload_n (k := 1) (q := 19) hC 1 rfl dX7_advances_18 rfl ?_
  obtain ⟨σ9, e10, hf⟩ := sq_ex hf
  have hs11 : RgS σ9 := by rw [e10]; exact RgS_hup hs8 hr7
  refine V_putf (T := TX7) (k := 12) (ty := .int) (q := 22) hC uX7_advances_7 rfl tyX7 tyX7_ok nmX7 iD7 rfl (pf_7_12 _ _ _ _ rfl) (by decide) kX7_advances_f92 rfl (by decide +kernel) rfl rfl (Nat.le_of_ble_eq_true rfl) e10 dX7_advances_19 rfl ?_
  refine V_iload_n (k := 1) (q := 23) hC 1 rfl dX7_advances_22 rfl ?_
  refine V_bipush (q := 25) hC (by decide) dX7_advances_23 rfl ?_
  refine V_bipush (q := 27) hC (by decide) dX7_advances_25 rfl ?_
  refine V_csi (st := []) (q := 30) hC (sX7_in l hG hr7 (Rg_c rfl) (Rg_c rfl) hs11) (va_cwS 3 hC.2.2.2.2.1 gX7_advances_X7_in rfl rfl rfl (by decide +kernel) ⟨Nat.le_of_ble_eq_true rfl, Nat.le_of_ble_eq_true rfl⟩) rfl rfl (Nat.le_of_ble_eq_true rfl) dX7_advances_27 rfl ⟨Nat.zero_le _, Nat.zero_le _⟩ (fun hr12 _ => ?_)
  refine V_if_eq (tgt := 135) (q := 33) hC hr12 dX7_advances_30 (by decide) rfl (fun c13 => ?_) (fun c13 => ?_)
  · replace hf := (if_pos c13).symm.trans hf
    refine V_aload_n (k := 0) (q := 136) hC 0 rfl dX7_advances_135 rfl ?_
    refine V_iload_n (k := 1) (q := 137) hC 1 rfl dX7_advances_136 rfl ?_
    refine V_if_ge (tgt := 144) (q := 140) hC hr7 dX7_advances_137 (by decide) rfl (fun c14 => ?_) (fun c14 => ?_)
    · replace hf := (if_pos c14).symm.trans hf
      refine V_iload_n (k := 1) (q := 145) hC 1 rfl dX7_advances_144 rfl ?_
      refine V_bipush (q := 147) hC (by decide) dX7_advances_145 rfl ?_
      refine V_bipush (q := 149) hC (by decide) dX7_advances_147 rfl ?_
      refine V_csi (st := [rf G 7 0]) (q := 152) hC (sX7_in l hG hr7 (Rg_c rfl) (Rg_c rfl) hs11) (va_cwS 3 hC.2.2.2.2.1 gX7_advances_X7_in rfl rfl rfl (by decide +kernel) ⟨Nat.le_of_ble_eq_true rfl, Nat.le_of_ble_eq_true rfl⟩) rfl rfl (Nat.le_of_ble_eq_true rfl) dX7_advances_149 rfl ⟨Nat.zero_le _, Nat.zero_le _⟩ (fun hr15 _ => ?_)
      refine V_if_eq (tgt := 159) (q := 155) hC hr15 dX7_advances_152 (by decide) rfl (fun c16 => ?_) (fun c16 => ?_)
      · replace hf := (if_pos c16).symm.trans hf
        refine V_iload_n (k := 1) (q := 160) hC 1 rfl dX7_advances_159 rfl ?_
        refine V_bipush (q := 162) hC (by decide) dX7_advances_160 rfl ?_
        refine V_icmp_ne (tgt := 169) (q := 165) hC hr7 (Rg_c rfl) dX7_advances_162 (by decide) rfl (fun c17 => ?_) (fun c17 => ?_)
        · replace hf := (if_neg c17).symm.trans hf
          refine V_iload_n (k := 1) (q := 170) hC 1 rfl dX7_advances_169 rfl ?_
          refine V_bipush (q := 172) hC (by decide) dX7_advances_170 rfl ?_
          refine V_icmp_ne (tgt := 179) (q := 175) hC hr7 (Rg_c rfl) dX7_advances_172 (by decide) rfl (fun c18 => ?_) (fun c18 => ?_)
          · replace hf := (if_neg c18).symm.trans hf
            refine V_iconst (q := 180) hC dX7_advances_179 rfl ?_
            refine V_lsub [0] rfl ?_
            exact tjX7_advances_180 hG hC hr hlk hs11 (Rg_c rfl) hf
          · replace hf := (if_pos c18).symm.trans hf
            refine V_iconst (q := 176) hC dX7_advances_175 rfl ?_
            refine V_goto (tgt := 180) hC dX7_advances_176 (by decide) ?_
            refine V_lsub [0] rfl ?_
            exact tjX7_advances_180 hG hC hr hlk hs11 (Rg_c rfl) hf
        · replace hf := (if_pos c17).symm.trans hf
          refine V_iconst (q := 166) hC dX7_advances_165 rfl ?_
          refine V_goto (tgt := 180) hC dX7_advances_166 (by decide) ?_
          refine V_lsub [0] rfl ?_
          exact tjX7_advances_180 hG hC hr hlk hs11 (Rg_c rfl) hf
      · replace hf := (if_neg c16).symm.trans hf
        refine V_iconst (q := 156) hC dX7_advances_155 rfl ?_
        refine V_goto (tgt := 180) hC dX7_advances_156 (by decide) ?_
        refine V_lsub [0] rfl ?_
        exact tjX7_advances_180 hG hC hr hlk hs11 (Rg_c rfl) hf
    · replace hf := (if_neg c14).symm.trans hf
      refine V_iconst (q := 141) hC dX7_advances_140 rfl ?_
      refine V_goto (tgt := 180) hC dX7_advances_141 (by decide) ?_
      refine V_lsub [0] rfl ?_
      exact tjX7_advances_180 hG hC hr hlk hs11 (Rg_c rfl) hf
  · replace hf := (if_neg c13).symm.trans hf
    refine V_aload_n (k := 0) (q := 34) hC 0 rfl dX7_advances_33 rfl ?_
    refine V_iconst (q := 35) hC dX7_advances_34 rfl ?_
    obtain ⟨σ19, e20, hf⟩ := sq_ex hf
    have hs21 : RgS σ19 := by rw [e20]; exact RgS_hup hs11 (Rg_c rfl)
    refine V_putf (T := TX7) (k := 12) (ty := .int) (q := 38) hC uX7_advances_7 rfl tyX7 tyX7_ok nmX7 iD7 rfl (pf_7_12 _ _ _ _ rfl) (by decide) kX7_advances_f92 rfl (by decide +kernel) rfl rfl (Nat.le_of_ble_eq_true rfl) e20 dX7_advances_35 rfl ?_
    refine V_lsub [0] rfl ?_
    exact (tlX7_advances_38 hG hC hr hlk FU).1 hs21  hf
/-! X7_isWell -/
theorem kX7_isWell_f98 : Cond.fieldLink RX7 98 "BarkNamesModel" "faultPlace" "I" ∈ wsX7_isWell := by decide +kernel
theorem uX7_isWell_7 : ∀ w ∈ u_ws RX7 TX7 22, w ∈ wsX7_isWell := by decide +kernel
abbrev rmX7_isWell : Room := { frames := 0, cells := 0, slots := 0, locals := 0 }
set_option maxHeartbeats 4000000 in
set_option maxRecDepth 100000 in
theorem sX7_isWell (l : Launch) {G : GT} (hG : GI G) {σ : Hp} (hs : RgS σ) : Cti l G yX7_isWell wsX7_isWell rmX7_isWell [rf G 7 0] σ (fX7_isWell σ) σ := by
  obtain ⟨x0, hf⟩ : ∃ x, fX7_isWell σ = x := ⟨_, rfl⟩
  rw [hf]
  unfold fX7_isWell at hf
  refine Cti_start (lv := [(0, rf G 7 0)]) (ret := (some .boolean)) (by decide +kernel) rfl hG (Nat.le_of_ble_eq_true rfl) rfl (fun p e s m args below meth c hC hr hlk => ?_)
  refine V_aload_n (k := 0) (q := 1) hC 0 rfl dX7_isWell_0 rfl ?_
  refine V_getf (T := TX7) (k := 8) (q := 4) hC uX7_isWell_7 rfl iD7 rfl (by decide) kX7_isWell_f98 rfl dX7_isWell_1 rfl ?_
  refine V_if_ge (tgt := 11) (q := 7) hC (hs _ _ _) dX7_isWell_4 (by decide) rfl (fun c1 => ?_) (fun c1 => ?_)
  · replace hf := (if_pos c1).symm.trans hf
    refine V_iconst (q := 12) hC dX7_isWell_11 rfl ?_
    exact V_zret hC hr hlk (Or.inl rfl) hf rfl hs dX7_isWell_12
  · replace hf := (if_neg c1).symm.trans hf
    refine V_iconst (q := 8) hC dX7_isWell_7 rfl ?_
    refine V_goto (tgt := 12) hC dX7_isWell_8 (by decide) ?_
    exact V_zret hC hr hlk (Or.inr rfl) hf rfl hs dX7_isWell_12
/-! X7_takes -/
theorem kX7_takes_f92 : Cond.fieldLink RX7 92 "BarkNamesModel" "value" "I" ∈ wsX7_takes := by decide +kernel
theorem uX7_takes_7 : ∀ w ∈ u_ws RX7 TX7 22, w ∈ wsX7_takes := by decide +kernel
theorem kX7_takes_f86 : Cond.fieldLink RX7 86 "BarkNamesModel" "start" "I" ∈ wsX7_takes := by decide +kernel
theorem kX7_takes_f98 : Cond.fieldLink RX7 98 "BarkNamesModel" "faultPlace" "I" ∈ wsX7_takes := by decide +kernel
theorem kX7_takes_f105 : Cond.fieldLink RX7 105 "BarkNamesModel" "faultKind" "I" ∈ wsX7_takes := by decide +kernel
abbrev rmX7_takes : Room := { frames := 2, cells := 0, slots := 0, locals := 43 }
set_option maxHeartbeats 4000000 in
set_option maxRecDepth 100000 in
theorem sX7_takes (l : Launch) {G : GT} (hG : GI G) {v1 : Int} {v2 : Int} (h1 : Rg v1) (h2 : Rg v2) {σ : Hp} (hs : RgS σ) {r0 : Int × Hp} (hf : fX7_takes σ v1 v2 = some r0) : Cti l G yX7_takes wsX7_takes rmX7_takes [rf G 7 0, iv v1, iv v2] σ r0.1 r0.2 := by
  unfold fX7_takes at hf
  refine Cti_start (lv := [(0, rf G 7 0), (1, iv v1), (2, iv v2)]) (ret := (some .int)) (by decide +kernel) rfl hG (Nat.le_of_ble_eq_true rfl) rfl (fun p e s m args below meth c hC hr hlk => ?_)
  refine V_aload_n (k := 0) (q := 1) hC 0 rfl dX7_takes_0 rfl ?_
  refine V_cvi (st := []) (q := 4) hC (sX7_isWell l hG  hs) (cwV 0 hC.2.2.2.2.1 gX7_takes_X7_isWell rfl rfl rfl (by decide +kernel) ⟨Nat.le_of_ble_eq_true rfl, Nat.le_of_ble_eq_true rfl⟩) ⟨_, rfl, rfl⟩ iD7 (fun _ => ⟨_, rfl⟩) rfl rfl (Nat.le_of_ble_eq_true rfl) dX7_takes_1 rfl ⟨Nat.zero_le _, Nat.zero_le _⟩ (fun hr1 _ => ?_)
  refine V_if_ne (tgt := 9) (q := 7) hC hr1 dX7_takes_4 (by decide) rfl (fun c2 => ?_) (fun c2 => ?_)
  · replace hf := (if_neg c2).symm.trans hf
    refine V_iload_n (k := 1) (q := 10) hC 1 rfl dX7_takes_9 rfl ?_
    refine V_if_ne (tgt := 28) (q := 13) hC h1 dX7_takes_10 (by decide) rfl (fun c3 => ?_) (fun c3 => ?_)
    · replace hf := (if_neg c3).symm.trans hf
      refine V_aload_n (k := 0) (q := 29) hC 0 rfl dX7_takes_28 rfl ?_
      refine V_getf (T := TX7) (k := 12) (q := 32) hC uX7_takes_7 rfl iD7 rfl (by decide) kX7_takes_f92 rfl dX7_takes_29 rfl ?_
      refine V_istore_n (k := 3) (i := 3) (lv' := [(0, rf G 7 0), (1, iv v1), (2, iv v2), (3, iv (σ 7 0 12))]) (q := 33) hC [1, 2, 3, 0] rfl (by decide) rfl dX7_takes_32 rfl ?_
      refine V_aload_n (k := 0) (q := 34) hC 0 rfl dX7_takes_33 rfl ?_
      obtain ⟨r4, σ5, hc6, hf⟩ := cl_some hf
      refine V_cvv (st := []) (q := 37) (σ0 := σ5) hC (sX7_advances l hG  hs hc6) (cwV 0 hC.2.2.2.2.1 gX7_takes_X7_advances rfl rfl rfl (by decide +kernel) ⟨Nat.le_of_ble_eq_true rfl, Nat.le_of_ble_eq_true rfl⟩) ⟨_, rfl, rfl⟩ iD7 (fun _ => ⟨_, rfl⟩) rfl rfl (Nat.le_of_ble_eq_true rfl) dX7_takes_34 rfl ⟨Nat.zero_le _, Nat.zero_le _⟩ (fun hs8 => ?_)
      refine V_iload_n (k := 3) (q := 38) hC 3 rfl dX7_takes_37 rfl ?_
      exact V_iret hC hr hlk (re_1 hf) (re_2 hf) (hs _ _ _) hs8 dX7_takes_38
    · replace hf := (if_pos c3).symm.trans hf
      refine V_aload_n (k := 0) (q := 14) hC 0 rfl dX7_takes_13 rfl ?_
      refine V_aload_n (k := 0) (q := 15) hC 0 rfl dX7_takes_14 rfl ?_
      refine V_getf (T := TX7) (k := 10) (q := 18) hC uX7_takes_7 rfl iD7 rfl (by decide) kX7_takes_f86 rfl dX7_takes_15 rfl ?_
      obtain ⟨σ9, e10, hf⟩ := sq_ex hf
      have hs11 : RgS σ9 := by rw [e10]; exact RgS_hup hs (hs _ _ _)
      refine V_putf (T := TX7) (k := 8) (ty := .int) (q := 21) hC uX7_takes_7 rfl tyX7 tyX7_ok nmX7 iD7 rfl (pf_7_8 _ _ _ _ rfl) (by decide) kX7_takes_f98 rfl (by decide +kernel) rfl rfl (Nat.le_of_ble_eq_true rfl) e10 dX7_takes_18 rfl ?_
      refine V_aload_n (k := 0) (q := 22) hC 0 rfl dX7_takes_21 rfl ?_
      refine V_iload_n (k := 2) (q := 23) hC 2 rfl dX7_takes_22 rfl ?_
      obtain ⟨σ12, e13, hf⟩ := sq_ex hf
      have hs14 : RgS σ12 := by rw [e13]; exact RgS_hup hs11 h2
      refine V_putf (T := TX7) (k := 7) (ty := .int) (q := 26) hC uX7_takes_7 rfl tyX7 tyX7_ok nmX7 iD7 rfl (pf_7_7 _ _ _ _ rfl) (by decide) kX7_takes_f105 rfl (by decide +kernel) rfl rfl (Nat.le_of_ble_eq_true rfl) e13 dX7_takes_23 rfl ?_
      refine V_iconst (q := 27) hC dX7_takes_26 rfl ?_
      exact V_iret hC hr hlk (re_1 hf) (re_2 hf) (Rg_c rfl) hs14 dX7_takes_27
  · replace hf := (if_pos c2).symm.trans hf
    refine V_iconst (q := 8) hC dX7_takes_7 rfl ?_
    exact V_iret hC hr hlk (re_1 hf) (re_2 hf) (Rg_c rfl) hs dX7_takes_8
/-! X7_figure -/
theorem kX7_figure_f95 : Cond.fieldLink RX7 95 "BarkNamesModel" "token" "I" ∈ wsX7_figure := by decide +kernel
theorem uX7_figure_7 : ∀ w ∈ u_ws RX7 TX7 22, w ∈ wsX7_figure := by decide +kernel
theorem kX7_figure_f92 : Cond.fieldLink RX7 92 "BarkNamesModel" "value" "I" ∈ wsX7_figure := by decide +kernel
abbrev rmX7_figure : Room := { frames := 3, cells := 0, slots := 0, locals := 66 }
set_option maxHeartbeats 4000000 in
set_option maxRecDepth 100000 in
theorem tjX7_figure_22 {p : Program} {l : Launch} {e : Env} {s : State} {m : MethodId} {args : Array Value} {below : List Frame} {meth : Method} {c : Code} {G : GT} (hG : GI G) (hC : CX p s m args c cX7_figure 3 RX7 wsX7_figure G (AA G)) (hr : meth.sig.returnType = (some .int)) (hlk : meth.locks = false) {r0 : Int × Hp} {σ : Hp} (hs : RgS σ) {v1 : Int} {v2 : Int} (h1 : Rg v1) (h2 : Rg v2) (hf : jX7_figure_22 σ v1 v2 = some r0) : VV p l e (headSpec wsX7_figure rmX7_figure).room s m args below meth c (MQ below (QI G r0.1 r0.2) args s 0 0 (AA G)) G (AA G) 0 0 3 σ 22 [(0, rf G 7 0), (1, iv v1), (2, iv v2)] [] := by
  unfold jX7_figure_22 at hf
  refine V_aload_n (k := 0) (q := 23) hC 0 rfl dX7_figure_22 rfl ?_
  refine V_aload_n (k := 0) (q := 24) hC 0 rfl dX7_figure_23 rfl ?_
  refine V_getf (T := TX7) (k := 12) (q := 27) hC uX7_figure_7 rfl iD7 rfl (by decide) kX7_figure_f92 rfl dX7_figure_24 rfl ?_
  refine V_iload_n (k := 1) (q := 28) hC 1 rfl dX7_figure_27 rfl ?_
  refine V_iload_n (k := 2) (q := 29) hC 2 rfl dX7_figure_28 rfl ?_
  refine V_csi (st := [rf G 7 0]) (q := 32) hC (sX7_in l hG (hs _ _ _) h1 h2 hs) (va_cwS 3 hC.2.2.2.2.1 gX7_figure_X7_in rfl rfl rfl (by decide +kernel) ⟨Nat.le_of_ble_eq_true rfl, Nat.le_of_ble_eq_true rfl⟩) rfl rfl (Nat.le_of_ble_eq_true rfl) dX7_figure_29 rfl ⟨Nat.zero_le _, Nat.zero_le _⟩ (fun hr9 _ => ?_)
  refine V_iconst (q := 33) hC dX7_figure_32 rfl ?_
  obtain ⟨r10, σ11, hc12, hf⟩ := cl_some hf
  refine V_cvi (st := []) (q := 36) (x0 := r10) (σ0 := σ11) hC (sX7_takes l hG hr9 (Rg_c rfl) hs hc12) (cwV 2 hC.2.2.2.2.1 gX7_figure_X7_takes rfl rfl rfl (by decide +kernel) ⟨Nat.le_of_ble_eq_true rfl, Nat.le_of_ble_eq_true rfl⟩) ⟨_, rfl, rfl⟩ iD7 (fun _ => ⟨_, rfl⟩) rfl rfl (Nat.le_of_ble_eq_true rfl) dX7_figure_33 rfl ⟨Nat.zero_le _, Nat.zero_le _⟩ (fun hr13 hs14 => ?_)
  exact V_iret hC hr hlk (re_1 hf) (re_2 hf) hr13 hs14 dX7_figure_36
set_option maxHeartbeats 4000000 in
set_option maxRecDepth 100000 in
theorem sX7_figure (l : Launch) {G : GT} (hG : GI G) {v1 : Int} {v2 : Int} (h1 : Rg v1) (h2 : Rg v2) {σ : Hp} (hs : RgS σ) {r0 : Int × Hp} (hf : fX7_figure σ v1 v2 = some r0) : Cti l G yX7_figure wsX7_figure rmX7_figure [rf G 7 0, iv v1, iv v2] σ r0.1 r0.2 := by
  unfold fX7_figure at hf
  refine Cti_start (lv := [(0, rf G 7 0), (1, iv v1), (2, iv v2)]) (ret := (some .int)) (by decide +kernel) rfl hG (Nat.le_of_ble_eq_true rfl) rfl (fun p e s m args below meth c hC hr hlk => ?_)
  refine V_aload_n (k := 0) (q := 1) hC 0 rfl dX7_figure_0 rfl ?_
  refine V_cvi (st := []) (q := 4) hC (sX7_isWell l hG  hs) (cwV 0 hC.2.2.2.2.1 gX7_figure_X7_isWell rfl rfl rfl (by decide +kernel) ⟨Nat.le_of_ble_eq_true rfl, Nat.le_of_ble_eq_true rfl⟩) ⟨_, rfl, rfl⟩ iD7 (fun _ => ⟨_, rfl⟩) rfl rfl (Nat.le_of_ble_eq_true rfl) dX7_figure_1 rfl ⟨Nat.zero_le _, Nat.zero_le _⟩ (fun hr1 _ => ?_)
  refine V_if_eq (tgt := 22) (q := 7) hC hr1 dX7_figure_4 (by decide) rfl (fun c2 => ?_) (fun c2 => ?_)
  · replace hf := (if_pos c2).symm.trans hf
    refine V_lsub [0, 1, 2] rfl ?_
    exact tjX7_figure_22 hG hC hr hlk hs h1 h2 hf
  · replace hf := (if_neg c2).symm.trans hf
    refine V_aload_n (k := 0) (q := 8) hC 0 rfl dX7_figure_7 rfl ?_
    refine V_getf (T := TX7) (k := 11) (q := 11) hC uX7_figure_7 rfl iD7 rfl (by decide) kX7_figure_f95 rfl dX7_figure_8 rfl ?_
    refine V_iconst (q := 12) hC dX7_figure_11 rfl ?_
    refine V_icmp_eq (tgt := 22) (q := 15) hC (hs _ _ _) (Rg_c rfl) dX7_figure_12 (by decide) rfl (fun c3 => ?_) (fun c3 => ?_)
    · replace hf := (if_pos c3).symm.trans hf
      refine V_lsub [0, 1, 2] rfl ?_
      exact tjX7_figure_22 hG hC hr hlk hs h1 h2 hf
    · replace hf := (if_neg c3).symm.trans hf
      refine V_aload_n (k := 0) (q := 16) hC 0 rfl dX7_figure_15 rfl ?_
      refine V_iconst (q := 17) hC dX7_figure_16 rfl ?_
      refine V_iconst (q := 18) hC dX7_figure_17 rfl ?_
      obtain ⟨r4, σ5, hc6, hf⟩ := cl_some hf
      refine V_cvi (st := []) (q := 21) (x0 := r4) (σ0 := σ5) hC (sX7_takes l hG (Rg_c rfl) (Rg_c rfl) hs hc6) (cwV 2 hC.2.2.2.2.1 gX7_figure_X7_takes rfl rfl rfl (by decide +kernel) ⟨Nat.le_of_ble_eq_true rfl, Nat.le_of_ble_eq_true rfl⟩) ⟨_, rfl, rfl⟩ iD7 (fun _ => ⟨_, rfl⟩) rfl rfl (Nat.le_of_ble_eq_true rfl) dX7_figure_18 rfl ⟨Nat.zero_le _, Nat.zero_le _⟩ (fun hr7 hs8 => ?_)
      exact V_iret hC hr hlk (re_1 hf) (re_2 hf) hr7 hs8 dX7_figure_21
/-! X7_kindOf -/
abbrev rmX7_kindOf : Room := { frames := 0, cells := 0, slots := 0, locals := 0 }
set_option maxHeartbeats 4000000 in
set_option maxRecDepth 100000 in
theorem sX7_kindOf (l : Launch) {G : GT} (hG : GI G) {v0 : Int} (h0 : Rg v0) {σ : Hp} (hs : RgS σ) : Cti l G yX7_kindOf wsX7_kindOf rmX7_kindOf [iv v0] σ (fX7_kindOf v0) σ := by
  obtain ⟨x0, hf⟩ : ∃ x, fX7_kindOf v0 = x := ⟨_, rfl⟩
  rw [hf]
  unfold fX7_kindOf at hf
  refine Cti_start (lv := [(0, iv v0)]) (ret := (some .int)) (by decide +kernel) rfl hG (Nat.le_of_ble_eq_true rfl) rfl (fun p e s m args below meth c hC hr hlk => ?_)
  refine V_iload_n (k := 0) (q := 1) hC 0 rfl dX7_kindOf_0 rfl ?_
  refine V_bipush (q := 3) hC (by decide) dX7_kindOf_1 rfl ?_
  refine V_icmp_ne (tgt := 10) (q := 6) hC h0 (Rg_c rfl) dX7_kindOf_3 (by decide) rfl (fun c1 => ?_) (fun c1 => ?_)
  · replace hf := (if_neg c1).symm.trans hf
    refine V_iload_n (k := 0) (q := 11) hC 0 rfl dX7_kindOf_10 rfl ?_
    refine V_bipush (q := 13) hC (by decide) dX7_kindOf_11 rfl ?_
    refine V_icmp_ne (tgt := 20) (q := 16) hC h0 (Rg_c rfl) dX7_kindOf_13 (by decide) rfl (fun c2 => ?_) (fun c2 => ?_)
    · replace hf := (if_neg c2).symm.trans hf
      refine V_iload_n (k := 0) (q := 21) hC 0 rfl dX7_kindOf_20 rfl ?_
      refine V_bipush (q := 23) hC (by decide) dX7_kindOf_21 rfl ?_
      refine V_icmp_ne (tgt := 30) (q := 26) hC h0 (Rg_c rfl) dX7_kindOf_23 (by decide) rfl (fun c3 => ?_) (fun c3 => ?_)
      · replace hf := (if_neg c3).symm.trans hf
        refine V_iload_n (k := 0) (q := 31) hC 0 rfl dX7_kindOf_30 rfl ?_
        refine V_bipush (q := 33) hC (by decide) dX7_kindOf_31 rfl ?_
        refine V_icmp_ne (tgt := 40) (q := 36) hC h0 (Rg_c rfl) dX7_kindOf_33 (by decide) rfl (fun c4 => ?_) (fun c4 => ?_)
        · replace hf := (if_neg c4).symm.trans hf
          refine V_iload_n (k := 0) (q := 41) hC 0 rfl dX7_kindOf_40 rfl ?_
          refine V_bipush (q := 43) hC (by decide) dX7_kindOf_41 rfl ?_
          refine V_icmp_ne (tgt := 50) (q := 46) hC h0 (Rg_c rfl) dX7_kindOf_43 (by decide) rfl (fun c5 => ?_) (fun c5 => ?_)
          · replace hf := (if_neg c5).symm.trans hf
            refine V_iconst (q := 51) hC dX7_kindOf_50 rfl ?_
            exact V_iret hC hr hlk hf rfl (Rg_c rfl) hs dX7_kindOf_51
          · replace hf := (if_pos c5).symm.trans hf
            refine V_iconst (q := 47) hC dX7_kindOf_46 rfl ?_
            refine V_goto (tgt := 51) hC dX7_kindOf_47 (by decide) ?_
            exact V_iret hC hr hlk hf rfl (Rg_c rfl) hs dX7_kindOf_51
        · replace hf := (if_pos c4).symm.trans hf
          refine V_iconst (q := 37) hC dX7_kindOf_36 rfl ?_
          refine V_goto (tgt := 51) hC dX7_kindOf_37 (by decide) ?_
          exact V_iret hC hr hlk hf rfl (Rg_c rfl) hs dX7_kindOf_51
      · replace hf := (if_pos c3).symm.trans hf
        refine V_iconst (q := 27) hC dX7_kindOf_26 rfl ?_
        refine V_goto (tgt := 51) hC dX7_kindOf_27 (by decide) ?_
        exact V_iret hC hr hlk hf rfl (Rg_c rfl) hs dX7_kindOf_51
    · replace hf := (if_pos c2).symm.trans hf
      refine V_iconst (q := 17) hC dX7_kindOf_16 rfl ?_
      refine V_goto (tgt := 51) hC dX7_kindOf_17 (by decide) ?_
      exact V_iret hC hr hlk hf rfl (Rg_c rfl) hs dX7_kindOf_51
  · replace hf := (if_pos c1).symm.trans hf
    refine V_iconst (q := 7) hC dX7_kindOf_6 rfl ?_
    refine V_goto (tgt := 51) hC dX7_kindOf_7 (by decide) ?_
    exact V_iret hC hr hlk hf rfl (Rg_c rfl) hs dX7_kindOf_51
/-! X7_next -/
theorem kX7_next_f95 : Cond.fieldLink RX7 95 "BarkNamesModel" "token" "I" ∈ wsX7_next := by decide +kernel
theorem uX7_next_7 : ∀ w ∈ u_ws RX7 TX7 22, w ∈ wsX7_next := by decide +kernel
abbrev rmX7_next : Room := { frames := 4, cells := 0, slots := 0, locals := 88 }
set_option maxHeartbeats 4000000 in
set_option maxRecDepth 100000 in
theorem tjX7_next_14 {p : Program} {l : Launch} {e : Env} {s : State} {m : MethodId} {args : Array Value} {below : List Frame} {meth : Method} {c : Code} {G : GT} (hG : GI G) (hC : CX p s m args c cX7_next 3 RX7 wsX7_next G (AA G)) (hr : meth.sig.returnType = (some .int)) (hlk : meth.locks = false) {r0 : Int × Hp} {σ : Hp} (hs : RgS σ) {v1 : Int} {v2 : Int} {w0 : Int} (h1 : Rg v1) (h2 : Rg v2) (hw0 : Rg w0) (hf : jX7_next_14 σ v1 v2 w0 = some r0) : VV p l e (headSpec wsX7_next rmX7_next).room s m args below meth c (MQ below (QI G r0.1 r0.2) args s 0 0 (AA G)) G (AA G) 0 0 3 σ 14 [(0, rf G 7 0), (1, iv v1), (2, iv v2)] [iv w0, rf G 7 0] := by
  unfold jX7_next_14 at hf
  refine V_iconst (q := 15) hC dX7_next_14 rfl ?_
  obtain ⟨r2, σ3, hc4, hf⟩ := cl_some hf
  refine V_cvi (st := []) (q := 18) (x0 := r2) (σ0 := σ3) hC (sX7_takes l hG hw0 (Rg_c rfl) hs hc4) (cwV 2 hC.2.2.2.2.1 gX7_next_X7_takes rfl rfl rfl (by decide +kernel) ⟨Nat.le_of_ble_eq_true rfl, Nat.le_of_ble_eq_true rfl⟩) ⟨_, rfl, rfl⟩ iD7 (fun _ => ⟨_, rfl⟩) rfl rfl (Nat.le_of_ble_eq_true rfl) dX7_next_15 rfl ⟨Nat.zero_le _, Nat.zero_le _⟩ (fun hr5 hs6 => ?_)
  refine V_pop (q := 19) hC rfl dX7_next_18 rfl ?_
  refine V_aload_n (k := 0) (q := 20) hC 0 rfl dX7_next_19 rfl ?_
  refine V_iload_n (k := 1) (q := 21) hC 1 rfl dX7_next_20 rfl ?_
  refine V_iload_n (k := 2) (q := 22) hC 2 rfl dX7_next_21 rfl ?_
  obtain ⟨r7, σ8, hc9, hf⟩ := cl_some hf
  refine V_cvi (st := []) (q := 25) (x0 := r7) (σ0 := σ8) hC (sX7_figure l hG h1 h2 hs6 hc9) (cwV 2 hC.2.2.2.2.1 gX7_next_X7_figure rfl rfl rfl (by decide +kernel) ⟨Nat.le_of_ble_eq_true rfl, Nat.le_of_ble_eq_true rfl⟩) ⟨_, rfl, rfl⟩ iD7 (fun _ => ⟨_, rfl⟩) rfl rfl (Nat.le_of_ble_eq_true rfl) dX7_next_22 rfl ⟨Nat.zero_le _, Nat.zero_le _⟩ (fun hr10 hs11 => ?_)
  exact V_iret hC hr hlk (re_1 hf) (re_2 hf) hr10 hs11 dX7_next_25
set_option maxHeartbeats 4000000 in
set_option maxRecDepth 100000 in
theorem sX7_next (l : Launch) {G : GT} (hG : GI G) {v1 : Int} {v2 : Int} (h1 : Rg v1) (h2 : Rg v2) {σ : Hp} (hs : RgS σ) {r0 : Int × Hp} (hf : fX7_next σ v1 v2 = some r0) : Cti l G yX7_next wsX7_next rmX7_next [rf G 7 0, iv v1, iv v2] σ r0.1 r0.2 := by
  unfold fX7_next at hf
  refine Cti_start (lv := [(0, rf G 7 0), (1, iv v1), (2, iv v2)]) (ret := (some .int)) (by decide +kernel) rfl hG (Nat.le_of_ble_eq_true rfl) rfl (fun p e s m args below meth c hC hr hlk => ?_)
  refine V_aload_n (k := 0) (q := 1) hC 0 rfl dX7_next_0 rfl ?_
  refine V_aload_n (k := 0) (q := 2) hC 0 rfl dX7_next_1 rfl ?_
  refine V_getf (T := TX7) (k := 11) (q := 5) hC uX7_next_7 rfl iD7 rfl (by decide) kX7_next_f95 rfl dX7_next_2 rfl ?_
  refine V_iconst (q := 6) hC dX7_next_5 rfl ?_
  refine V_icmp_ne (tgt := 13) (q := 9) hC (hs _ _ _) (Rg_c rfl) dX7_next_6 (by decide) rfl (fun c1 => ?_) (fun c1 => ?_)
  · replace hf := (if_neg c1).symm.trans hf
    refine V_iconst (q := 14) hC dX7_next_13 rfl ?_
    refine V_lsub [0, 1, 2] rfl ?_
    exact tjX7_next_14 hG hC hr hlk hs h1 h2 (Rg_c rfl) hf
  · replace hf := (if_pos c1).symm.trans hf
    refine V_iconst (q := 10) hC dX7_next_9 rfl ?_
    refine V_goto (tgt := 14) hC dX7_next_10 (by decide) ?_
    refine V_lsub [0, 1, 2] rfl ?_
    exact tjX7_next_14 hG hC hr hlk hs h1 h2 (Rg_c rfl) hf
