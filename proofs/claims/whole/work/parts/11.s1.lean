/-! X5_growth -/
theorem kX5_growth_f15 : Cond.fieldLink RX5 15 "BarkNames$Wood" "girthOf" "[I" ∈ wsX5_growth := by decide +kernel
theorem uX5_growth_5 : ∀ w ∈ u_ws RX5 TX5 12, w ∈ wsX5_growth := by decide +kernel
theorem kX5_growth_m64 : Cond.methodLink RX5 64 Lib.Math.min.name ∈ wsX5_growth := by decide +kernel
theorem kX5_growth_smin : Cond.static Lib.Math.min.name ∈ wsX5_growth := by decide +kernel
theorem kX5_growth_iMath : Cond.initialized "java/lang/Math" ∈ wsX5_growth := by decide +kernel
theorem kX5_growth_kmin : Cond.code Lib.Math.min.name Lib.Math.min.code 2 (some .int) ∈ wsX5_growth := by decide +kernel
abbrev rmX5_growth : Room := { frames := 1, cells := 0, slots := 0, locals := 23 }
set_option maxHeartbeats 4000000 in
set_option maxRecDepth 100000 in
theorem sX5_growth (l : Launch) {G : GT} (hG : GI G) {j0 : Nat} {v1 : Int} (hj0 : j0 < 28) (h1 : Rg v1) {σ : Hp} (hs : RgS σ) {r0 : Int × Hp} (hf : fX5_growth σ j0 v1 = some r0) : Cti l G yX5_growth wsX5_growth rmX5_growth [rf G 5 j0, iv v1] σ r0.1 r0.2 := by
  unfold fX5_growth at hf
  refine Cti_start (lv := [(0, rf G 5 j0), (1, iv v1)]) (ret := (some .int)) (by decide +kernel) rfl hG (Nat.le_of_ble_eq_true rfl) rfl (fun p e s m args below meth c hC hr hlk => ?_)
  refine V_aload_n (k := 0) (q := 1) hC 0 rfl dX5_growth_0 rfl ?_
  refine V_iload_n (k := 1) (q := 2) hC 1 rfl dX5_growth_1 rfl ?_
  obtain ⟨r1, σ2, hc3, hf⟩ := cl_some hf
  refine V_cvi (st := []) (q := 5) (x0 := r1) (σ0 := σ2) hC (sX5_growthByKind l hG hj0 h1 hs hc3) (cwV 1 hC.2.2.2.2.1 gX5_growth_X5_growthByKind rfl rfl rfl (by decide +kernel) ⟨Nat.le_of_ble_eq_true rfl, Nat.le_of_ble_eq_true rfl⟩) ⟨_, rfl, rfl⟩ (iM5 hj0) (fun _ => ⟨_, rfl⟩) rfl rfl (Nat.le_of_ble_eq_true rfl) dX5_growth_2 rfl ⟨Nat.zero_le _, Nat.zero_le _⟩ (fun hr4 hs5 => ?_)
  refine V_sipush (q := 8) hC (by decide) dX5_growth_5 rfl ?_
  refine V_aload_n (k := 0) (q := 9) hC 0 rfl dX5_growth_8 rfl ?_
  refine V_getf (T := TX5) (k := 1) (q := 12) hC uX5_growth_5 rfl (iM5 hj0) rfl (by decide) kX5_growth_f15 rfl dX5_growth_9 rfl ?_
  refine V_iload_n (k := 1) (q := 13) hC 1 rfl dX5_growth_12 rfl ?_
  obtain ⟨g6, hf⟩ := gd_some hf
  refine V_iald (n := 4) (q := 14) hC (iM14 hj0) rfl g6 h1 dX5_growth_13 rfl ?_
  refine V_isub (q := 15) hC dX5_growth_14 rfl ?_
  refine V_mmin (q := 18) hC hr4 (Rg_wr _) kX5_growth_m64 kX5_growth_smin kX5_growth_iMath kX5_growth_kmin ⟨Nat.le_of_ble_eq_true rfl, Nat.le_of_ble_eq_true rfl, Nat.zero_le _, Nat.zero_le _⟩ dX5_growth_15 rfl ?_
  exact V_iret hC hr hlk (re_1 hf) (re_2 hf) (Rg_qmin hr4 (Rg_wr _)) hs5 dX5_growth_18
/-! X5_closesBy -/
theorem kX5_closesBy_f41 : Cond.fieldLink RX5 41 "BarkNames$Wood" "year" "I" ∈ wsX5_closesBy := by decide +kernel
theorem uX5_closesBy_5 : ∀ w ∈ u_ws RX5 TX5 12, w ∈ wsX5_closesBy := by decide +kernel
abbrev rmX5_closesBy : Room := { frames := 0, cells := 0, slots := 0, locals := 0 }
set_option maxHeartbeats 4000000 in
set_option maxRecDepth 100000 in
theorem sX5_closesBy (l : Launch) {G : GT} (hG : GI G) {j0 : Nat} {v1 : Int} {v2 : Int} (hj0 : j0 < 28) (h1 : Rg v1) (h2 : Rg v2) {σ : Hp} (hs : RgS σ) : Cti l G yX5_closesBy wsX5_closesBy rmX5_closesBy [rf G 5 j0, iv v1, iv v2] σ (fX5_closesBy σ j0 v1 v2) σ := by
  obtain ⟨x0, hf⟩ : ∃ x, fX5_closesBy σ j0 v1 v2 = x := ⟨_, rfl⟩
  rw [hf]
  unfold fX5_closesBy at hf
  refine Cti_start (lv := [(0, rf G 5 j0), (1, iv v1), (2, iv v2)]) (ret := (some .boolean)) (by decide +kernel) rfl hG (Nat.le_of_ble_eq_true rfl) rfl (fun p e s m args below meth c hC hr hlk => ?_)
  refine V_iload_n (k := 2) (q := 1) hC 2 rfl dX5_closesBy_0 rfl ?_
  refine V_iconst (q := 2) hC dX5_closesBy_1 rfl ?_
  refine V_icmp_ne (tgt := 28) (q := 5) hC h2 (Rg_c rfl) dX5_closesBy_2 (by decide) rfl (fun c1 => ?_) (fun c1 => ?_)
  · replace hf := (if_neg c1).symm.trans hf
    refine V_iload_n (k := 1) (q := 29) hC 1 rfl dX5_closesBy_28 rfl ?_
    refine V_iconst (q := 30) hC dX5_closesBy_29 rfl ?_
    refine V_icmp_lt (tgt := 37) (q := 33) hC h1 (Rg_c rfl) dX5_closesBy_30 (by decide) rfl (fun c2 => ?_) (fun c2 => ?_)
    · replace hf := (if_pos c2).symm.trans hf
      refine V_iconst (q := 38) hC dX5_closesBy_37 rfl ?_
      exact V_zret hC hr hlk (Or.inl rfl) hf rfl hs dX5_closesBy_38
    · replace hf := (if_neg c2).symm.trans hf
      refine V_iconst (q := 34) hC dX5_closesBy_33 rfl ?_
      refine V_goto (tgt := 38) hC dX5_closesBy_34 (by decide) ?_
      exact V_zret hC hr hlk (Or.inr rfl) hf rfl hs dX5_closesBy_38
  · replace hf := (if_pos c1).symm.trans hf
    refine V_iload_n (k := 1) (q := 6) hC 1 rfl dX5_closesBy_5 rfl ?_
    refine V_iconst (q := 7) hC dX5_closesBy_6 rfl ?_
    refine V_icmp_lt (tgt := 24) (q := 10) hC h1 (Rg_c rfl) dX5_closesBy_7 (by decide) rfl (fun c3 => ?_) (fun c3 => ?_)
    · replace hf := (if_pos c3).symm.trans hf
      refine V_iconst (q := 25) hC dX5_closesBy_24 rfl ?_
      refine V_goto (tgt := 38) hC dX5_closesBy_25 (by decide) ?_
      exact V_zret hC hr hlk (Or.inl rfl) hf rfl hs dX5_closesBy_38
    · replace hf := (if_neg c3).symm.trans hf
      refine V_aload_n (k := 0) (q := 11) hC 0 rfl dX5_closesBy_10 rfl ?_
      refine V_getf (T := TX5) (k := 9) (q := 14) hC uX5_closesBy_5 rfl (iM5 hj0) rfl (by decide) kX5_closesBy_f41 rfl dX5_closesBy_11 rfl ?_
      refine V_iconst (q := 15) hC dX5_closesBy_14 rfl ?_
      refine V_irem (q := 16) hC (hs _ _ _) (Rg_c rfl) (by decide) dX5_closesBy_15 rfl ?_
      refine V_iconst (q := 17) hC dX5_closesBy_16 rfl ?_
      refine V_icmp_ne (tgt := 24) (q := 20) hC (Rg_qrem _ _) (Rg_c rfl) dX5_closesBy_17 (by decide) rfl (fun c4 => ?_) (fun c4 => ?_)
      · replace hf := (if_neg c4).symm.trans hf
        refine V_iconst (q := 25) hC dX5_closesBy_24 rfl ?_
        refine V_goto (tgt := 38) hC dX5_closesBy_25 (by decide) ?_
        exact V_zret hC hr hlk (Or.inl rfl) hf rfl hs dX5_closesBy_38
      · replace hf := (if_pos c4).symm.trans hf
        refine V_iconst (q := 21) hC dX5_closesBy_20 rfl ?_
        refine V_goto (tgt := 38) hC dX5_closesBy_21 (by decide) ?_
        exact V_zret hC hr hlk (Or.inr rfl) hf rfl hs dX5_closesBy_38
/-! X5_closeCutsOf -/
theorem kX5_closeCutsOf_f47 : Cond.fieldLink RX5 47 "BarkNames$Wood" "cutCount" "I" ∈ wsX5_closeCutsOf := by decide +kernel
theorem uX5_closeCutsOf_5 : ∀ w ∈ u_ws RX5 TX5 12, w ∈ wsX5_closeCutsOf := by decide +kernel
theorem kX5_closeCutsOf_f21 : Cond.fieldLink RX5 21 "BarkNames$Wood" "treeOf" "[I" ∈ wsX5_closeCutsOf := by decide +kernel
theorem kX5_closeCutsOf_f30 : Cond.fieldLink RX5 30 "BarkNames$Wood" "depthOf" "[I" ∈ wsX5_closeCutsOf := by decide +kernel
abbrev rmX5_closeCutsOf : Room := { frames := 0, cells := 0, slots := 0, locals := 0 }
set_option maxHeartbeats 4000000 in
set_option maxRecDepth 100000 in
theorem tlX5_closeCutsOf_2 {p : Program} {l : Launch} {e : Env} {s : State} {m : MethodId} {args : Array Value} {below : List Frame} {meth : Method} {c : Code} {G : GT} (hG : GI G) (hC : CX p s m args c cX5_closeCutsOf 3 RX5 wsX5_closeCutsOf G (AA G)) (hr : meth.sig.returnType = none) (hlk : meth.locks = false) {j0 : Nat} (hj0 : j0 < 28) {r0 : Int × Hp} : ∀ n : Nat, (∀ {σ : Hp} (hs : RgS σ) {v1 : Int} {v2 : Int} (h1 : Rg v1) (h2 : Rg v2) (hf : lX5_closeCutsOf_2 n σ j0 v1 v2 = some r0), VV p l e (headSpec wsX5_closeCutsOf rmX5_closeCutsOf).room s m args below meth c (MQ below (QV G r0.2) args s 0 0 (AA G)) G (AA G) 0 0 3 σ 2 [(0, rf G 5 j0), (1, iv v1), (2, iv v2)] []) := by
  intro n
  induction n with
  | zero =>
    exact by intro σ hs v1 v2 h1 h2 hf; exact absurd (show (none : Option (Int × Hp)) = some r0 from hf) (fun z => by cases z)
  | succ n ih =>
    intro σ hs v1 v2 h1 h2 hf
    replace hf := (lX5_closeCutsOf_2_e0 n σ j0 v1 v2).symm.trans hf
    refine V_iload_n (k := 2) (q := 3) hC 2 rfl dX5_closeCutsOf_2 rfl ?_
    refine V_aload_n (k := 0) (q := 4) hC 0 rfl dX5_closeCutsOf_3 rfl ?_
    refine V_getf (T := TX5) (k := 11) (q := 7) hC uX5_closeCutsOf_5 rfl (iM5 hj0) rfl (by decide) kX5_closeCutsOf_f47 rfl dX5_closeCutsOf_4 rfl ?_
    refine V_icmp_ge (tgt := 45) (q := 10) hC h2 (hs _ _ _) dX5_closeCutsOf_7 (by decide) rfl (fun c1 => ?_) (fun c1 => ?_)
    · replace hf := (if_pos c1).symm.trans hf
      exact V_vret hC hr hlk (re_2 hf) hs dX5_closeCutsOf_45
    · replace hf := (if_neg c1).symm.trans hf
      refine V_aload_n (k := 0) (q := 11) hC 0 rfl dX5_closeCutsOf_10 rfl ?_
      refine V_getf (T := TX5) (k := 3) (q := 14) hC uX5_closeCutsOf_5 rfl (iM5 hj0) rfl (by decide) kX5_closeCutsOf_f21 rfl dX5_closeCutsOf_11 rfl ?_
      refine V_iload_n (k := 2) (q := 15) hC 2 rfl dX5_closeCutsOf_14 rfl ?_
      obtain ⟨g2, hf⟩ := gd_some hf
      refine V_iald (n := 8) (q := 16) hC (iM16 hj0) rfl g2 h2 dX5_closeCutsOf_15 rfl ?_
      refine V_iload_n (k := 1) (q := 17) hC 1 rfl dX5_closeCutsOf_16 rfl ?_
      refine V_icmp_ne (tgt := 39) (q := 20) hC (hs _ _ _) h1 dX5_closeCutsOf_17 (by decide) rfl (fun c3 => ?_) (fun c3 => ?_)
      · replace hf := (if_neg c3).symm.trans hf
        refine V_iinc (i := 2) (lv' := [(0, rf G 5 j0), (1, iv v1), (2, iv (wr (v2 + 1)))]) (q := 42) hC 2 rfl [1, 2, 0] (by decide) rfl dX5_closeCutsOf_39 rfl ?_
        refine V_goto (tgt := 2) hC dX5_closeCutsOf_42 (by decide) ?_
        refine V_lsub [0, 1, 2] rfl ?_
        exact ih hs h1 (Rg_wr _) hf
      · replace hf := (if_pos c3).symm.trans hf
        refine V_aload_n (k := 0) (q := 21) hC 0 rfl dX5_closeCutsOf_20 rfl ?_
        refine V_getf (T := TX5) (k := 6) (q := 24) hC uX5_closeCutsOf_5 rfl (iM5 hj0) rfl (by decide) kX5_closeCutsOf_f30 rfl dX5_closeCutsOf_21 rfl ?_
        refine V_iload_n (k := 2) (q := 25) hC 2 rfl dX5_closeCutsOf_24 rfl ?_
        obtain ⟨g4, hf⟩ := gd_some hf
        refine V_iald (n := 8) (q := 26) hC (iM19 hj0) rfl g4 h2 dX5_closeCutsOf_25 rfl ?_
        refine V_if_le (tgt := 39) (q := 29) hC (hs _ _ _) dX5_closeCutsOf_26 (by decide) rfl (fun c5 => ?_) (fun c5 => ?_)
        · replace hf := (if_pos c5).symm.trans hf
          refine V_iinc (i := 2) (lv' := [(0, rf G 5 j0), (1, iv v1), (2, iv (wr (v2 + 1)))]) (q := 42) hC 2 rfl [1, 2, 0] (by decide) rfl dX5_closeCutsOf_39 rfl ?_
          refine V_goto (tgt := 2) hC dX5_closeCutsOf_42 (by decide) ?_
          refine V_lsub [0, 1, 2] rfl ?_
          exact ih hs h1 (Rg_wr _) hf
        · replace hf := (if_neg c5).symm.trans hf
          refine V_aload_n (k := 0) (q := 30) hC 0 rfl dX5_closeCutsOf_29 rfl ?_
          refine V_getf (T := TX5) (k := 6) (q := 33) hC uX5_closeCutsOf_5 rfl (iM5 hj0) rfl (by decide) kX5_closeCutsOf_f30 rfl dX5_closeCutsOf_30 rfl ?_
          refine V_iload_n (k := 2) (q := 34) hC 2 rfl dX5_closeCutsOf_33 rfl ?_
          refine V_dup2 (q := 35) hC rfl rfl dX5_closeCutsOf_34 rfl ?_
          obtain ⟨g6, hf⟩ := gd_some hf
          refine V_iald (n := 8) (q := 36) hC (iM19 hj0) rfl g6 h2 dX5_closeCutsOf_35 rfl ?_
          refine V_iconst (q := 37) hC dX5_closeCutsOf_36 rfl ?_
          refine V_isub (q := 38) hC dX5_closeCutsOf_37 rfl ?_
          obtain ⟨g7, hf⟩ := gd_some hf
          obtain ⟨σ8, e9, hf⟩ := sq_ex hf
          have hs10 : RgS σ8 := by rw [e9]; exact RgS_hup hs (Rg_wr _)
          refine V_iast (n := 8) (q := 39) hC (iM19 hj0) rfl g7 h2 e9 dX5_closeCutsOf_38 rfl ?_
          refine V_iinc (i := 2) (lv' := [(0, rf G 5 j0), (1, iv v1), (2, iv (wr (v2 + 1)))]) (q := 42) hC 2 rfl [1, 2, 0] (by decide) rfl dX5_closeCutsOf_39 rfl ?_
          refine V_goto (tgt := 2) hC dX5_closeCutsOf_42 (by decide) ?_
          refine V_lsub [0, 1, 2] rfl ?_
          exact ih hs10 h1 (Rg_wr _) hf
set_option maxHeartbeats 4000000 in
set_option maxRecDepth 100000 in
theorem sX5_closeCutsOf (l : Launch) {G : GT} (hG : GI G) {j0 : Nat} {v1 : Int} (hj0 : j0 < 28) (h1 : Rg v1) {σ : Hp} (hs : RgS σ) {r0 : Int × Hp} (hf : fX5_closeCutsOf σ j0 v1 = some r0) : Ctv l G yX5_closeCutsOf wsX5_closeCutsOf rmX5_closeCutsOf [rf G 5 j0, iv v1] σ r0.2 := by
  unfold fX5_closeCutsOf at hf
  refine Ctv_start (lv := [(0, rf G 5 j0), (1, iv v1)]) (ret := none) (by decide +kernel) rfl hG (Nat.le_of_ble_eq_true rfl) rfl (fun p e s m args below meth c hC hr hlk => ?_)
  refine V_iconst (q := 1) hC dX5_closeCutsOf_0 rfl ?_
  refine V_istore_n (k := 2) (i := 2) (lv' := [(0, rf G 5 j0), (1, iv v1), (2, iv 0)]) (q := 2) hC [1, 2, 0] rfl (by decide) rfl dX5_closeCutsOf_1 rfl ?_
  refine V_lsub [0, 1, 2] rfl ?_
  exact (tlX5_closeCutsOf_2 hG hC hr hlk hj0 FU) hs h1 (Rg_c rfl) hf
/-! X5_passYear -/
theorem kX5_passYear_f44 : Cond.fieldLink RX5 44 "BarkNames$Wood" "treeCount" "I" ∈ wsX5_passYear := by decide +kernel
theorem uX5_passYear_5 : ∀ w ∈ u_ws RX5 TX5 12, w ∈ wsX5_passYear := by decide +kernel
theorem kX5_passYear_f41 : Cond.fieldLink RX5 41 "BarkNames$Wood" "year" "I" ∈ wsX5_passYear := by decide +kernel
theorem kX5_passYear_f15 : Cond.fieldLink RX5 15 "BarkNames$Wood" "girthOf" "[I" ∈ wsX5_passYear := by decide +kernel
theorem kX5_passYear_f9 : Cond.fieldLink RX5 9 "BarkNames$Wood" "kindOf" "[I" ∈ wsX5_passYear := by decide +kernel
abbrev rmX5_passYear : Room := { frames := 2, cells := 0, slots := 0, locals := 44 }
set_option maxHeartbeats 4000000 in
set_option maxRecDepth 100000 in
theorem tlX5_passYear_2 {p : Program} {l : Launch} {e : Env} {s : State} {m : MethodId} {args : Array Value} {below : List Frame} {meth : Method} {c : Code} {G : GT} (hG : GI G) (hC : CX p s m args c cX5_passYear 3 RX5 wsX5_passYear G (AA G)) (hr : meth.sig.returnType = none) (hlk : meth.locks = false) {j0 : Nat} (hj0 : j0 < 28) {r0 : Int × Hp} : ∀ n : Nat, (∀ {σ : Hp} (hs : RgS σ) {v1 : Int} (h1 : Rg v1) (hf : lX5_passYear_2 n σ j0 v1 = some r0), VV p l e (headSpec wsX5_passYear rmX5_passYear).room s m args below meth c (MQ below (QV G r0.2) args s 0 0 (AA G)) G (AA G) 0 0 3 σ 2 [(0, rf G 5 j0), (1, iv v1)] []) := by
  intro n
  induction n with
  | zero =>
    exact by intro σ hs v1 h1 hf; exact absurd (show (none : Option (Int × Hp)) = some r0 from hf) (fun z => by cases z)
  | succ n ih =>
    intro σ hs v1 h1 hf
    replace hf := (lX5_passYear_2_e0 n σ j0 v1).symm.trans hf
    refine V_iload_n (k := 1) (q := 3) hC 1 rfl dX5_passYear_2 rfl ?_
    refine V_aload_n (k := 0) (q := 4) hC 0 rfl dX5_passYear_3 rfl ?_
    refine V_getf (T := TX5) (k := 10) (q := 7) hC uX5_passYear_5 rfl (iM5 hj0) rfl (by decide) kX5_passYear_f44 rfl dX5_passYear_4 rfl ?_
    refine V_icmp_ge (tgt := 51) (q := 10) hC h1 (hs _ _ _) dX5_passYear_7 (by decide) rfl (fun c1 => ?_) (fun c1 => ?_)
    · replace hf := (if_pos c1).symm.trans hf
      refine V_aload_n (k := 0) (q := 52) hC 0 rfl dX5_passYear_51 rfl ?_
      refine V_dup (q := 53) hC rfl dX5_passYear_52 rfl ?_
      refine V_getf (T := TX5) (k := 9) (q := 56) hC uX5_passYear_5 rfl (iM5 hj0) rfl (by decide) kX5_passYear_f41 rfl dX5_passYear_53 rfl ?_
      refine V_iconst (q := 57) hC dX5_passYear_56 rfl ?_
      refine V_iadd (q := 58) hC dX5_passYear_57 rfl ?_
      obtain ⟨σ2, e3, hf⟩ := sq_ex hf
      have hs4 : RgS σ2 := by rw [e3]; exact RgS_hup hs (Rg_wr _)
      refine V_putf (T := TX5) (k := 9) (ty := .int) (q := 61) hC uX5_passYear_5 rfl tyX5 tyX5_ok nmX5 (iM5 hj0) rfl (pf_5_9 _ _ _ _ rfl) (by decide) kX5_passYear_f41 rfl (by decide +kernel) rfl rfl (Nat.le_of_ble_eq_true rfl) e3 dX5_passYear_58 rfl ?_
      exact V_vret hC hr hlk (re_2 hf) hs4 dX5_passYear_61
    · replace hf := (if_neg c1).symm.trans hf
      refine V_aload_n (k := 0) (q := 11) hC 0 rfl dX5_passYear_10 rfl ?_
      refine V_iload_n (k := 1) (q := 12) hC 1 rfl dX5_passYear_11 rfl ?_
      obtain ⟨r5, σ6, hc7, hf⟩ := cl_some hf
      refine V_cvi (st := []) (q := 15) (x0 := r5) (σ0 := σ6) hC (sX5_growth l hG hj0 h1 hs hc7) (cwV 1 hC.2.2.2.2.1 gX5_passYear_X5_growth rfl rfl rfl (by decide +kernel) ⟨Nat.le_of_ble_eq_true rfl, Nat.le_of_ble_eq_true rfl⟩) ⟨_, rfl, rfl⟩ (iM5 hj0) (fun _ => ⟨_, rfl⟩) rfl rfl (Nat.le_of_ble_eq_true rfl) dX5_passYear_12 rfl ⟨Nat.zero_le _, Nat.zero_le _⟩ (fun hr8 hs9 => ?_)
      refine V_istore_n (k := 2) (i := 2) (lv' := [(0, rf G 5 j0), (1, iv v1), (2, iv r5)]) (q := 16) hC [1, 2, 0] rfl (by decide) rfl dX5_passYear_15 rfl ?_
      refine V_aload_n (k := 0) (q := 17) hC 0 rfl dX5_passYear_16 rfl ?_
      refine V_getf (T := TX5) (k := 1) (q := 20) hC uX5_passYear_5 rfl (iM5 hj0) rfl (by decide) kX5_passYear_f15 rfl dX5_passYear_17 rfl ?_
      refine V_iload_n (k := 1) (q := 21) hC 1 rfl dX5_passYear_20 rfl ?_
      refine V_dup2 (q := 22) hC rfl rfl dX5_passYear_21 rfl ?_
      obtain ⟨g10, hf⟩ := gd_some hf
      refine V_iald (n := 4) (q := 23) hC (iM14 hj0) rfl g10 h1 dX5_passYear_22 rfl ?_
      refine V_iload_n (k := 2) (q := 24) hC 2 rfl dX5_passYear_23 rfl ?_
      refine V_iadd (q := 25) hC dX5_passYear_24 rfl ?_
      obtain ⟨g11, hf⟩ := gd_some hf
      obtain ⟨σ12, e13, hf⟩ := sq_ex hf
      have hs14 : RgS σ12 := by rw [e13]; exact RgS_hup hs9 (Rg_wr _)
      refine V_iast (n := 4) (q := 26) hC (iM14 hj0) rfl g11 h1 e13 dX5_passYear_25 rfl ?_
      refine V_aload_n (k := 0) (q := 27) hC 0 rfl dX5_passYear_26 rfl ?_
      refine V_iload_n (k := 2) (q := 28) hC 2 rfl dX5_passYear_27 rfl ?_
      refine V_aload_n (k := 0) (q := 29) hC 0 rfl dX5_passYear_28 rfl ?_
      refine V_getf (T := TX5) (k := 0) (q := 32) hC uX5_passYear_5 rfl (iM5 hj0) rfl (by decide) kX5_passYear_f9 rfl dX5_passYear_29 rfl ?_
      refine V_iload_n (k := 1) (q := 33) hC 1 rfl dX5_passYear_32 rfl ?_
      obtain ⟨g15, hf⟩ := gd_some hf
      refine V_iald (n := 4) (q := 34) hC (iM13 hj0) rfl g15 h1 dX5_passYear_33 rfl ?_
      refine V_cvi (st := []) (q := 37) hC (sX5_closesBy l hG hj0 hr8 (hs14 _ _ _) hs14) (cwV 2 hC.2.2.2.2.1 gX5_passYear_X5_closesBy rfl rfl rfl (by decide +kernel) ⟨Nat.le_of_ble_eq_true rfl, Nat.le_of_ble_eq_true rfl⟩) ⟨_, rfl, rfl⟩ (iM5 hj0) (fun _ => ⟨_, rfl⟩) rfl rfl (Nat.le_of_ble_eq_true rfl) dX5_passYear_34 rfl ⟨Nat.zero_le _, Nat.zero_le _⟩ (fun hr16 _ => ?_)
      refine V_if_eq (tgt := 45) (q := 40) hC hr16 dX5_passYear_37 (by decide) rfl (fun c17 => ?_) (fun c17 => ?_)
      · replace hf := (if_pos c17).symm.trans hf
        refine V_iinc (i := 1) (lv' := [(0, rf G 5 j0), (1, iv (wr (v1 + 1))), (2, iv r5)]) (q := 48) hC 1 rfl [1, 0, 2] (by decide) rfl dX5_passYear_45 rfl ?_
        refine V_goto (tgt := 2) hC dX5_passYear_48 (by decide) ?_
        refine V_lsub [0, 1] rfl ?_
        exact ih hs14 (Rg_wr _) hf
      · replace hf := (if_neg c17).symm.trans hf
        refine V_aload_n (k := 0) (q := 41) hC 0 rfl dX5_passYear_40 rfl ?_
        refine V_iload_n (k := 1) (q := 42) hC 1 rfl dX5_passYear_41 rfl ?_
        obtain ⟨r18, σ19, hc20, hf⟩ := cl_some hf
        refine V_cvv (st := []) (q := 45) (σ0 := σ19) hC (sX5_closeCutsOf l hG hj0 h1 hs14 hc20) (cwV 1 hC.2.2.2.2.1 gX5_passYear_X5_closeCutsOf rfl rfl rfl (by decide +kernel) ⟨Nat.le_of_ble_eq_true rfl, Nat.le_of_ble_eq_true rfl⟩) ⟨_, rfl, rfl⟩ (iM5 hj0) (fun _ => ⟨_, rfl⟩) rfl rfl (Nat.le_of_ble_eq_true rfl) dX5_passYear_42 rfl ⟨Nat.zero_le _, Nat.zero_le _⟩ (fun hs22 => ?_)
        refine V_iinc (i := 1) (lv' := [(0, rf G 5 j0), (1, iv (wr (v1 + 1))), (2, iv r5)]) (q := 48) hC 1 rfl [1, 0, 2] (by decide) rfl dX5_passYear_45 rfl ?_
        refine V_goto (tgt := 2) hC dX5_passYear_48 (by decide) ?_
        refine V_lsub [0, 1] rfl ?_
        exact ih hs22 (Rg_wr _) hf
set_option maxHeartbeats 4000000 in
set_option maxRecDepth 100000 in
theorem sX5_passYear (l : Launch) {G : GT} (hG : GI G) {j0 : Nat} (hj0 : j0 < 28) {σ : Hp} (hs : RgS σ) {r0 : Int × Hp} (hf : fX5_passYear σ j0 = some r0) : Ctv l G yX5_passYear wsX5_passYear rmX5_passYear [rf G 5 j0] σ r0.2 := by
  unfold fX5_passYear at hf
  refine Ctv_start (lv := [(0, rf G 5 j0)]) (ret := none) (by decide +kernel) rfl hG (Nat.le_of_ble_eq_true rfl) rfl (fun p e s m args below meth c hC hr hlk => ?_)
  refine V_iconst (q := 1) hC dX5_passYear_0 rfl ?_
  refine V_istore_n (k := 1) (i := 1) (lv' := [(0, rf G 5 j0), (1, iv 0)]) (q := 2) hC [1, 0] rfl (by decide) rfl dX5_passYear_1 rfl ?_
  refine V_lsub [0, 1] rfl ?_
  exact (tlX5_passYear_2 hG hC hr hlk hj0 FU) hs (Rg_c rfl) hf
/-! X5_passYears -/
abbrev rmX5_passYears : Room := { frames := 3, cells := 0, slots := 0, locals := 66 }
set_option maxHeartbeats 4000000 in
set_option maxRecDepth 100000 in
theorem tlX5_passYears_2 {p : Program} {l : Launch} {e : Env} {s : State} {m : MethodId} {args : Array Value} {below : List Frame} {meth : Method} {c : Code} {G : GT} (hG : GI G) (hC : CX p s m args c cX5_passYears 3 RX5 wsX5_passYears G (AA G)) (hr : meth.sig.returnType = none) (hlk : meth.locks = false) {j0 : Nat} (hj0 : j0 < 28) {r0 : Int × Hp} : ∀ n : Nat, (∀ {σ : Hp} (hs : RgS σ) {v1 : Int} {v2 : Int} (h1 : Rg v1) (h2 : Rg v2) (hf : lX5_passYears_2 n σ j0 v1 v2 = some r0), VV p l e (headSpec wsX5_passYears rmX5_passYears).room s m args below meth c (MQ below (QV G r0.2) args s 0 0 (AA G)) G (AA G) 0 0 3 σ 2 [(0, rf G 5 j0), (1, iv v1), (2, iv v2)] []) := by
  intro n
  induction n with
  | zero =>
    exact by intro σ hs v1 v2 h1 h2 hf; exact absurd (show (none : Option (Int × Hp)) = some r0 from hf) (fun z => by cases z)
  | succ n ih =>
    intro σ hs v1 v2 h1 h2 hf
    replace hf := (lX5_passYears_2_e0 n σ j0 v1 v2).symm.trans hf
    refine V_iload_n (k := 2) (q := 3) hC 2 rfl dX5_passYears_2 rfl ?_
    refine V_iload_n (k := 1) (q := 4) hC 1 rfl dX5_passYears_3 rfl ?_
    refine V_icmp_ge (tgt := 17) (q := 7) hC h2 h1 dX5_passYears_4 (by decide) rfl (fun c1 => ?_) (fun c1 => ?_)
    · replace hf := (if_pos c1).symm.trans hf
      exact V_vret hC hr hlk (re_2 hf) hs dX5_passYears_17
    · replace hf := (if_neg c1).symm.trans hf
      refine V_aload_n (k := 0) (q := 8) hC 0 rfl dX5_passYears_7 rfl ?_
      obtain ⟨r2, σ3, hc4, hf⟩ := cl_some hf
      refine V_cvv (st := []) (q := 11) (σ0 := σ3) hC (sX5_passYear l hG hj0 hs hc4) (cwV 0 hC.2.2.2.2.1 gX5_passYears_X5_passYear rfl rfl rfl (by decide +kernel) ⟨Nat.le_of_ble_eq_true rfl, Nat.le_of_ble_eq_true rfl⟩) ⟨_, rfl, rfl⟩ (iM5 hj0) (fun _ => ⟨_, rfl⟩) rfl rfl (Nat.le_of_ble_eq_true rfl) dX5_passYears_8 rfl ⟨Nat.zero_le _, Nat.zero_le _⟩ (fun hs6 => ?_)
      refine V_iinc (i := 2) (lv' := [(0, rf G 5 j0), (1, iv v1), (2, iv (wr (v2 + 1)))]) (q := 14) hC 2 rfl [1, 2, 0] (by decide) rfl dX5_passYears_11 rfl ?_
      refine V_goto (tgt := 2) hC dX5_passYears_14 (by decide) ?_
      refine V_lsub [0, 1, 2] rfl ?_
      exact ih hs6 h1 (Rg_wr _) hf
set_option maxHeartbeats 4000000 in
set_option maxRecDepth 100000 in
theorem sX5_passYears (l : Launch) {G : GT} (hG : GI G) {j0 : Nat} {v1 : Int} (hj0 : j0 < 28) (h1 : Rg v1) {σ : Hp} (hs : RgS σ) {r0 : Int × Hp} (hf : fX5_passYears σ j0 v1 = some r0) : Ctv l G yX5_passYears wsX5_passYears rmX5_passYears [rf G 5 j0, iv v1] σ r0.2 := by
  unfold fX5_passYears at hf
  refine Ctv_start (lv := [(0, rf G 5 j0), (1, iv v1)]) (ret := none) (by decide +kernel) rfl hG (Nat.le_of_ble_eq_true rfl) rfl (fun p e s m args below meth c hC hr hlk => ?_)
  refine V_iconst (q := 1) hC dX5_passYears_0 rfl ?_
  refine V_istore_n (k := 2) (i := 2) (lv' := [(0, rf G 5 j0), (1, iv v1), (2, iv 0)]) (q := 2) hC [1, 2, 0] rfl (by decide) rfl dX5_passYears_1 rfl ?_
  refine V_lsub [0, 1, 2] rfl ?_
  exact (tlX5_passYears_2 hG hC hr hlk hj0 FU) hs h1 (Rg_c rfl) hf
/-! X5_readable -/
theorem kX5_readable_f47 : Cond.fieldLink RX5 47 "BarkNames$Wood" "cutCount" "I" ∈ wsX5_readable := by decide +kernel
theorem uX5_readable_5 : ∀ w ∈ u_ws RX5 TX5 12, w ∈ wsX5_readable := by decide +kernel
theorem kX5_readable_f30 : Cond.fieldLink RX5 30 "BarkNames$Wood" "depthOf" "[I" ∈ wsX5_readable := by decide +kernel
abbrev rmX5_readable : Room := { frames := 0, cells := 0, slots := 0, locals := 0 }
set_option maxHeartbeats 4000000 in
set_option maxRecDepth 100000 in
theorem tlX5_readable_4 {p : Program} {l : Launch} {e : Env} {s : State} {m : MethodId} {args : Array Value} {below : List Frame} {meth : Method} {c : Code} {G : GT} (hG : GI G) (hC : CX p s m args c cX5_readable 3 RX5 wsX5_readable G (AA G)) (hr : meth.sig.returnType = (some .int)) (hlk : meth.locks = false) {j0 : Nat} (hj0 : j0 < 28) {r0 : Int × Hp} : ∀ n : Nat, (∀ {σ : Hp} (hs : RgS σ) {v1 : Int} {v2 : Int} (h1 : Rg v1) (h2 : Rg v2) (hf : lX5_readable_4 n σ j0 v1 v2 = some r0), VV p l e (headSpec wsX5_readable rmX5_readable).room s m args below meth c (MQ below (QI G r0.1 r0.2) args s 0 0 (AA G)) G (AA G) 0 0 3 σ 4 [(0, rf G 5 j0), (1, iv v1), (2, iv v2)] []) := by
  intro n
  induction n with
  | zero =>
    exact by intro σ hs v1 v2 h1 h2 hf; exact absurd (show (none : Option (Int × Hp)) = some r0 from hf) (fun z => by cases z)
  | succ n ih =>
    intro σ hs v1 v2 h1 h2 hf
    replace hf := (lX5_readable_4_e0 n σ j0 v1 v2).symm.trans hf
    refine V_iload_n (k := 2) (q := 5) hC 2 rfl dX5_readable_4 rfl ?_
    refine V_aload_n (k := 0) (q := 6) hC 0 rfl dX5_readable_5 rfl ?_
    refine V_getf (T := TX5) (k := 11) (q := 9) hC uX5_readable_5 rfl (iM5 hj0) rfl (by decide) kX5_readable_f47 rfl dX5_readable_6 rfl ?_
    refine V_icmp_ge (tgt := 37) (q := 12) hC h2 (hs _ _ _) dX5_readable_9 (by decide) rfl (fun c1 => ?_) (fun c1 => ?_)
    · replace hf := (if_pos c1).symm.trans hf
      refine V_iload_n (k := 1) (q := 38) hC 1 rfl dX5_readable_37 rfl ?_
      exact V_iret hC hr hlk (re_1 hf) (re_2 hf) h1 hs dX5_readable_38
    · replace hf := (if_neg c1).symm.trans hf
      refine V_iload_n (k := 1) (q := 13) hC 1 rfl dX5_readable_12 rfl ?_
      refine V_aload_n (k := 0) (q := 14) hC 0 rfl dX5_readable_13 rfl ?_
      refine V_getf (T := TX5) (k := 6) (q := 17) hC uX5_readable_5 rfl (iM5 hj0) rfl (by decide) kX5_readable_f30 rfl dX5_readable_14 rfl ?_
      refine V_iload_n (k := 2) (q := 18) hC 2 rfl dX5_readable_17 rfl ?_
      obtain ⟨g2, hf⟩ := gd_some hf
      refine V_iald (n := 8) (q := 19) hC (iM19 hj0) rfl g2 h2 dX5_readable_18 rfl ?_
      refine V_if_le (tgt := 28) (q := 22) hC (hs _ _ _) dX5_readable_19 (by decide) rfl (fun c3 => ?_) (fun c3 => ?_)
      · replace hf := (if_pos c3).symm.trans hf
        refine V_iconst (q := 29) hC dX5_readable_28 rfl ?_
        refine V_ior (q := 30) hC dX5_readable_29 rfl ?_
        refine V_istore_n (k := 1) (i := 1) (lv' := [(0, rf G 5 j0), (1, iv (qor v1 0)), (2, iv v2)]) (q := 31) hC [1, 0, 2] rfl (by decide) rfl dX5_readable_30 rfl ?_
        refine V_iinc (i := 2) (lv' := [(0, rf G 5 j0), (1, iv (qor v1 0)), (2, iv (wr (v2 + 1)))]) (q := 34) hC 2 rfl [1, 2, 0] (by decide) rfl dX5_readable_31 rfl ?_
        refine V_goto (tgt := 4) hC dX5_readable_34 (by decide) ?_
        refine V_lsub [0, 1, 2] rfl ?_
        exact ih hs (Rg_qor _ _) (Rg_wr _) hf
      · replace hf := (if_neg c3).symm.trans hf
        refine V_iconst (q := 23) hC dX5_readable_22 rfl ?_
        refine V_iload_n (k := 2) (q := 24) hC 2 rfl dX5_readable_23 rfl ?_
        refine V_ishl (q := 25) hC dX5_readable_24 rfl ?_
        refine V_goto (tgt := 29) hC dX5_readable_25 (by decide) ?_
        refine V_ior (q := 30) hC dX5_readable_29 rfl ?_
        refine V_istore_n (k := 1) (i := 1) (lv' := [(0, rf G 5 j0), (1, iv (qor v1 (qshl 1 v2))), (2, iv v2)]) (q := 31) hC [1, 0, 2] rfl (by decide) rfl dX5_readable_30 rfl ?_
        refine V_iinc (i := 2) (lv' := [(0, rf G 5 j0), (1, iv (qor v1 (qshl 1 v2))), (2, iv (wr (v2 + 1)))]) (q := 34) hC 2 rfl [1, 2, 0] (by decide) rfl dX5_readable_31 rfl ?_
        refine V_goto (tgt := 4) hC dX5_readable_34 (by decide) ?_
        refine V_lsub [0, 1, 2] rfl ?_
        exact ih hs (Rg_qor _ _) (Rg_wr _) hf
set_option maxHeartbeats 4000000 in
set_option maxRecDepth 100000 in
theorem sX5_readable (l : Launch) {G : GT} (hG : GI G) {j0 : Nat} (hj0 : j0 < 28) {σ : Hp} (hs : RgS σ) {r0 : Int × Hp} (hf : fX5_readable σ j0 = some r0) : Cti l G yX5_readable wsX5_readable rmX5_readable [rf G 5 j0] σ r0.1 r0.2 := by
  unfold fX5_readable at hf
  refine Cti_start (lv := [(0, rf G 5 j0)]) (ret := (some .int)) (by decide +kernel) rfl hG (Nat.le_of_ble_eq_true rfl) rfl (fun p e s m args below meth c hC hr hlk => ?_)
  refine V_iconst (q := 1) hC dX5_readable_0 rfl ?_
  refine V_istore_n (k := 1) (i := 1) (lv' := [(0, rf G 5 j0), (1, iv 0)]) (q := 2) hC [1, 0] rfl (by decide) rfl dX5_readable_1 rfl ?_
  refine V_iconst (q := 3) hC dX5_readable_2 rfl ?_
  refine V_istore_n (k := 2) (i := 2) (lv' := [(0, rf G 5 j0), (1, iv 0), (2, iv 0)]) (q := 4) hC [1, 2, 0] rfl (by decide) rfl dX5_readable_3 rfl ?_
  refine V_lsub [0, 1, 2] rfl ?_
  exact (tlX5_readable_4 hG hC hr hlk hj0 FU) hs (Rg_c rfl) (Rg_c rfl) hf
/-! X5_readableOn -/
theorem kX5_readableOn_f47 : Cond.fieldLink RX5 47 "BarkNames$Wood" "cutCount" "I" ∈ wsX5_readableOn := by decide +kernel
theorem uX5_readableOn_5 : ∀ w ∈ u_ws RX5 TX5 12, w ∈ wsX5_readableOn := by decide +kernel
theorem kX5_readableOn_f21 : Cond.fieldLink RX5 21 "BarkNames$Wood" "treeOf" "[I" ∈ wsX5_readableOn := by decide +kernel
abbrev rmX5_readableOn : Room := { frames := 1, cells := 0, slots := 0, locals := 22 }
set_option maxHeartbeats 4000000 in
set_option maxRecDepth 100000 in
theorem tlX5_readableOn_7 {p : Program} {l : Launch} {e : Env} {s : State} {m : MethodId} {args : Array Value} {below : List Frame} {meth : Method} {c : Code} {G : GT} (hG : GI G) (hC : CX p s m args c cX5_readableOn 4 RX5 wsX5_readableOn G (AA G)) (hr : meth.sig.returnType = (some .int)) (hlk : meth.locks = false) {j0 : Nat} (hj0 : j0 < 28) {r0 : Int × Hp} : ∀ n : Nat, (∀ {σ : Hp} (hs : RgS σ) {v1 : Int} {v2 : Int} {v3 : Int} (h1 : Rg v1) (h2 : Rg v2) (h3 : Rg v3) (hf : lX5_readableOn_7 n σ j0 v1 v2 v3 = some r0), VV p l e (headSpec wsX5_readableOn rmX5_readableOn).room s m args below meth c (MQ below (QI G r0.1 r0.2) args s 0 0 (AA G)) G (AA G) 0 0 4 σ 7 [(0, rf G 5 j0), (1, iv v1), (2, iv v2), (3, iv v3)] []) := by
  intro n
  induction n with
  | zero =>
    exact by intro σ hs v1 v2 v3 h1 h2 h3 hf; exact absurd (show (none : Option (Int × Hp)) = some r0 from hf) (fun z => by cases z)
  | succ n ih =>
    intro σ hs v1 v2 v3 h1 h2 h3 hf
    replace hf := (lX5_readableOn_7_e0 n σ j0 v1 v2 v3).symm.trans hf
    refine V_iload_n (k := 3) (q := 8) hC 3 rfl dX5_readableOn_7 rfl ?_
    refine V_aload_n (k := 0) (q := 9) hC 0 rfl dX5_readableOn_8 rfl ?_
    refine V_getf (T := TX5) (k := 11) (q := 12) hC uX5_readableOn_5 rfl (iM5 hj0) rfl (by decide) kX5_readableOn_f47 rfl dX5_readableOn_9 rfl ?_
    refine V_icmp_ge (tgt := 45) (q := 15) hC h3 (hs _ _ _) dX5_readableOn_12 (by decide) rfl (fun c6 => ?_) (fun c6 => ?_)
    · replace hf := (if_pos c6).symm.trans hf
      refine V_iload_n (k := 2) (q := 46) hC 2 rfl dX5_readableOn_45 rfl ?_
      exact V_iret hC hr hlk (re_1 hf) (re_2 hf) h2 hs dX5_readableOn_46
    · replace hf := (if_neg c6).symm.trans hf
      refine V_iload_n (k := 2) (q := 16) hC 2 rfl dX5_readableOn_15 rfl ?_
      refine V_aload_n (k := 0) (q := 17) hC 0 rfl dX5_readableOn_16 rfl ?_
      refine V_getf (T := TX5) (k := 3) (q := 20) hC uX5_readableOn_5 rfl (iM5 hj0) rfl (by decide) kX5_readableOn_f21 rfl dX5_readableOn_17 rfl ?_
      refine V_iload_n (k := 3) (q := 21) hC 3 rfl dX5_readableOn_20 rfl ?_
      obtain ⟨g7, hf⟩ := gd_some hf
      refine V_iald (n := 8) (q := 22) hC (iM16 hj0) rfl g7 h3 dX5_readableOn_21 rfl ?_
      refine V_iload_n (k := 1) (q := 23) hC 1 rfl dX5_readableOn_22 rfl ?_
      refine V_icmp_ne (tgt := 32) (q := 26) hC (hs _ _ _) h1 dX5_readableOn_23 (by decide) rfl (fun c8 => ?_) (fun c8 => ?_)
      · replace hf := (if_neg c8).symm.trans hf
        refine V_iconst (q := 33) hC dX5_readableOn_32 rfl ?_
        refine V_iload_n (k := 3) (q := 34) hC 3 rfl dX5_readableOn_33 rfl ?_
        refine V_ishl (q := 35) hC dX5_readableOn_34 rfl ?_
        refine V_iconst (q := 36) hC dX5_readableOn_35 rfl ?_
        refine V_ixor (q := 37) hC dX5_readableOn_36 rfl ?_
        refine V_iand (q := 38) hC dX5_readableOn_37 rfl ?_
        refine V_istore_n (k := 2) (i := 2) (lv' := [(0, rf G 5 j0), (1, iv v1), (2, iv (qand v2 (qxor (qshl 1 v3) (-1)))), (3, iv v3)]) (q := 39) hC [1, 2, 0, 3] rfl (by decide) rfl dX5_readableOn_38 rfl ?_
        refine V_iinc (i := 3) (lv' := [(0, rf G 5 j0), (1, iv v1), (2, iv (qand v2 (qxor (qshl 1 v3) (-1)))), (3, iv (wr (v3 + 1)))]) (q := 42) hC 3 rfl [1, 2, 3, 0] (by decide) rfl dX5_readableOn_39 rfl ?_
        refine V_goto (tgt := 7) hC dX5_readableOn_42 (by decide) ?_
        refine V_lsub [0, 1, 2, 3] rfl ?_
        exact ih hs h1 (Rg_qand _ _) (Rg_wr _) hf
      · replace hf := (if_pos c8).symm.trans hf
        refine V_sipush (q := 29) hC (by decide) dX5_readableOn_26 rfl ?_
        refine V_goto (tgt := 37) hC dX5_readableOn_29 (by decide) ?_
        refine V_iand (q := 38) hC dX5_readableOn_37 rfl ?_
        refine V_istore_n (k := 2) (i := 2) (lv' := [(0, rf G 5 j0), (1, iv v1), (2, iv (qand v2 255)), (3, iv v3)]) (q := 39) hC [1, 2, 0, 3] rfl (by decide) rfl dX5_readableOn_38 rfl ?_
        refine V_iinc (i := 3) (lv' := [(0, rf G 5 j0), (1, iv v1), (2, iv (qand v2 255)), (3, iv (wr (v3 + 1)))]) (q := 42) hC 3 rfl [1, 2, 3, 0] (by decide) rfl dX5_readableOn_39 rfl ?_
        refine V_goto (tgt := 7) hC dX5_readableOn_42 (by decide) ?_
        refine V_lsub [0, 1, 2, 3] rfl ?_
        exact ih hs h1 (Rg_qand _ _) (Rg_wr _) hf
set_option maxHeartbeats 4000000 in
set_option maxRecDepth 100000 in
theorem sX5_readableOn (l : Launch) {G : GT} (hG : GI G) {j0 : Nat} {v1 : Int} (hj0 : j0 < 28) (h1 : Rg v1) {σ : Hp} (hs : RgS σ) {r0 : Int × Hp} (hf : fX5_readableOn σ j0 v1 = some r0) : Cti l G yX5_readableOn wsX5_readableOn rmX5_readableOn [rf G 5 j0, iv v1] σ r0.1 r0.2 := by
  unfold fX5_readableOn at hf
  refine Cti_start (lv := [(0, rf G 5 j0), (1, iv v1)]) (ret := (some .int)) (by decide +kernel) rfl hG (Nat.le_of_ble_eq_true rfl) rfl (fun p e s m args below meth c hC hr hlk => ?_)
  refine V_aload_n (k := 0) (q := 1) hC 0 rfl dX5_readableOn_0 rfl ?_
  obtain ⟨r1, σ2, hc3, hf⟩ := cl_some hf
  refine V_cvi (st := []) (q := 4) (x0 := r1) (σ0 := σ2) hC (sX5_readable l hG hj0 hs hc3) (cwV 0 hC.2.2.2.2.1 gX5_readableOn_X5_readable rfl rfl rfl (by decide +kernel) ⟨Nat.le_of_ble_eq_true rfl, Nat.le_of_ble_eq_true rfl⟩) ⟨_, rfl, rfl⟩ (iM5 hj0) (fun _ => ⟨_, rfl⟩) rfl rfl (Nat.le_of_ble_eq_true rfl) dX5_readableOn_1 rfl ⟨Nat.zero_le _, Nat.zero_le _⟩ (fun hr4 hs5 => ?_)
  refine V_istore_n (k := 2) (i := 2) (lv' := [(0, rf G 5 j0), (1, iv v1), (2, iv r1)]) (q := 5) hC [1, 2, 0] rfl (by decide) rfl dX5_readableOn_4 rfl ?_
  refine V_iconst (q := 6) hC dX5_readableOn_5 rfl ?_
  refine V_istore_n (k := 3) (i := 3) (lv' := [(0, rf G 5 j0), (1, iv v1), (2, iv r1), (3, iv 0)]) (q := 7) hC [1, 2, 3, 0] rfl (by decide) rfl dX5_readableOn_6 rfl ?_
  refine V_lsub [0, 1, 2, 3] rfl ?_
  exact (tlX5_readableOn_7 hG hC hr hlk hj0 FU) hs5 h1 hr4 (Rg_c rfl) hf
/-! X5_meetBehind -/
abbrev rmX5_meetBehind : Room := { frames := 2, cells := 0, slots := 0, locals := 44 }
set_option maxHeartbeats 4000000 in
set_option maxRecDepth 100000 in
theorem sX5_meetBehind (l : Launch) {G : GT} (hG : GI G) {j0 : Nat} {v1 : Int} {v2 : Int} (hj0 : j0 < 28) (h1 : Rg v1) (h2 : Rg v2) {σ : Hp} (hs : RgS σ) {r0 : Int × Hp} (hf : fX5_meetBehind σ j0 v1 v2 = some r0) : Cti l G yX5_meetBehind wsX5_meetBehind rmX5_meetBehind [rf G 5 j0, iv v1, iv v2] σ r0.1 r0.2 := by
  unfold fX5_meetBehind at hf
  refine Cti_start (lv := [(0, rf G 5 j0), (1, iv v1), (2, iv v2)]) (ret := (some .boolean)) (by decide +kernel) rfl hG (Nat.le_of_ble_eq_true rfl) rfl (fun p e s m args below meth c hC hr hlk => ?_)
  refine V_aload_n (k := 0) (q := 1) hC 0 rfl dX5_meetBehind_0 rfl ?_
  refine V_iload_n (k := 1) (q := 2) hC 1 rfl dX5_meetBehind_1 rfl ?_
  refine V_iload_n (k := 2) (q := 3) hC 2 rfl dX5_meetBehind_2 rfl ?_
  obtain ⟨r1, σ2, hc3, hf⟩ := cl_some hf
  refine V_cvi (st := []) (q := 6) (x0 := r1) (σ0 := σ2) hC (sX5_bothReadable l hG hj0 h1 h2 hs hc3) (cwV 2 hC.2.2.2.2.1 gX5_meetBehind_X5_bothReadable rfl rfl rfl (by decide +kernel) ⟨Nat.le_of_ble_eq_true rfl, Nat.le_of_ble_eq_true rfl⟩) ⟨_, rfl, rfl⟩ (iM5 hj0) (fun _ => ⟨_, rfl⟩) rfl rfl (Nat.le_of_ble_eq_true rfl) dX5_meetBehind_3 rfl ⟨Nat.zero_le _, Nat.zero_le _⟩ (fun hr4 hs5 => ?_)
  refine V_if_eq (tgt := 24) (q := 9) hC hr4 dX5_meetBehind_6 (by decide) rfl (fun c6 => ?_) (fun c6 => ?_)
  · replace hf := (if_pos c6).symm.trans hf
    refine V_iconst (q := 25) hC dX5_meetBehind_24 rfl ?_
    exact V_zret hC hr hlk (Or.inl rfl) (re_1 hf) (re_2 hf) hs5 dX5_meetBehind_25
  · replace hf := (if_neg c6).symm.trans hf
    refine V_aload_n (k := 0) (q := 10) hC 0 rfl dX5_meetBehind_9 rfl ?_
    refine V_iload_n (k := 1) (q := 11) hC 1 rfl dX5_meetBehind_10 rfl ?_
    refine V_iload_n (k := 2) (q := 12) hC 2 rfl dX5_meetBehind_11 rfl ?_
    obtain ⟨r7, σ8, hc9, hf⟩ := cl_some hf
    refine V_cvi (st := []) (q := 15) (x0 := r7) (σ0 := σ8) hC (sX5_placesApart l hG hj0 h1 h2 hs5 hc9) (cwV 2 hC.2.2.2.2.1 gX5_meetBehind_X5_placesApart rfl rfl rfl (by decide +kernel) ⟨Nat.le_of_ble_eq_true rfl, Nat.le_of_ble_eq_true rfl⟩) ⟨_, rfl, rfl⟩ (iM5 hj0) (fun _ => ⟨_, rfl⟩) rfl rfl (Nat.le_of_ble_eq_true rfl) dX5_meetBehind_12 rfl ⟨Nat.zero_le _, Nat.zero_le _⟩ (fun hr10 hs11 => ?_)
    refine V_bipush (q := 17) hC (by decide) dX5_meetBehind_15 rfl ?_
    refine V_icmp_lt (tgt := 24) (q := 20) hC hr10 (Rg_c rfl) dX5_meetBehind_17 (by decide) rfl (fun c12 => ?_) (fun c12 => ?_)
    · replace hf := (if_pos c12).symm.trans hf
      refine V_iconst (q := 25) hC dX5_meetBehind_24 rfl ?_
      exact V_zret hC hr hlk (Or.inl rfl) (re_1 hf) (re_2 hf) hs11 dX5_meetBehind_25
    · replace hf := (if_neg c12).symm.trans hf
      refine V_iconst (q := 21) hC dX5_meetBehind_20 rfl ?_
      refine V_goto (tgt := 25) hC dX5_meetBehind_21 (by decide) ?_
      exact V_zret hC hr hlk (Or.inr rfl) (re_1 hf) (re_2 hf) hs11 dX5_meetBehind_25
/-! X6_isRow -/
abbrev rmX6_isRow : Room := { frames := 1, cells := 0, slots := 0, locals := 21 }
set_option maxHeartbeats 4000000 in
set_option maxRecDepth 100000 in
theorem sX6_isRow (l : Launch) {G : GT} (hG : GI G) {v0 : Int} (h0 : Rg v0) {σ : Hp} (hs : RgS σ) : Cti l G yX6_isRow wsX6_isRow rmX6_isRow [iv v0] σ (fX6_isRow v0) σ := by
  obtain ⟨x0, hf⟩ : ∃ x, fX6_isRow v0 = x := ⟨_, rfl⟩
  rw [hf]
  unfold fX6_isRow at hf
  refine Cti_start (lv := [(0, iv v0)]) (ret := (some .boolean)) (by decide +kernel) rfl hG (Nat.le_of_ble_eq_true rfl) rfl (fun p e s m args below meth c hC hr hlk => ?_)
  refine V_iload_n (k := 0) (q := 1) hC 0 rfl dX6_isRow_0 rfl ?_
  refine V_bipush (q := 3) hC (by decide) dX6_isRow_1 rfl ?_
  refine V_csi (st := []) (q := 6) hC (sX6_isBelow l hG h0 (Rg_c rfl) hs) (va_cwS 2 hC.2.2.2.2.1 gX6_isRow_X6_isBelow rfl rfl rfl (by decide +kernel) ⟨Nat.le_of_ble_eq_true rfl, Nat.le_of_ble_eq_true rfl⟩) rfl rfl (Nat.le_of_ble_eq_true rfl) dX6_isRow_3 rfl ⟨Nat.zero_le _, Nat.zero_le _⟩ (fun hr1 _ => ?_)
  exact V_zret hC hr hlk (zX6_isBelow _ _) hf rfl hs dX6_isRow_6
/-! X6_found -/
theorem kX6_found_f314 : Cond.fieldLink RX6 314 "BarkNames" "latestFinding" "I" ∈ wsX6_found := by decide +kernel
theorem uX6_found_6 : ∀ w ∈ u_ws RX6 TX6 10, w ∈ wsX6_found := by decide +kernel
theorem kX6_found_c317 : Cond.constant RX6 317 (-1000010) ∈ wsX6_found := by decide +kernel
abbrev rmX6_found : Room := { frames := 0, cells := 0, slots := 0, locals := 0 }
set_option maxHeartbeats 4000000 in
set_option maxRecDepth 100000 in
theorem sX6_found (l : Launch) {G : GT} (hG : GI G) {v1 : Int} (h1 : Rg v1) {σ : Hp} (hs : RgS σ) {r0 : Int × Hp} (hf : fX6_found σ v1 = some r0) : Cti l G yX6_found wsX6_found rmX6_found [rf G 6 0, iv v1] σ r0.1 r0.2 := by
  unfold fX6_found at hf
  refine Cti_start (lv := [(0, rf G 6 0), (1, iv v1)]) (ret := (some .int)) (by decide +kernel) rfl hG (Nat.le_of_ble_eq_true rfl) rfl (fun p e s m args below meth c hC hr hlk => ?_)
  refine V_aload_n (k := 0) (q := 1) hC 0 rfl dX6_found_0 rfl ?_
  refine V_iload_n (k := 1) (q := 2) hC 1 rfl dX6_found_1 rfl ?_
  obtain ⟨σ1, e2, hf⟩ := sq_ex hf
  have hs3 : RgS σ1 := by rw [e2]; exact RgS_hup hs h1
  refine V_putf (T := TX6) (k := 9) (ty := .int) (q := 5) hC uX6_found_6 rfl tyX6 tyX6_ok nmX6 iD6 rfl (pf_6_9 _ _ _ _ rfl) (by decide) kX6_found_f314 rfl (by decide +kernel) rfl rfl (Nat.le_of_ble_eq_true rfl) e2 dX6_found_2 rfl ?_
  refine V_ldcw (q := 8) (n := (-1000010)) hC (by decide) kX6_found_c317 dX6_found_5 rfl ?_
  refine V_iload_n (k := 1) (q := 9) hC 1 rfl dX6_found_8 rfl ?_
  refine V_isub (q := 10) hC dX6_found_9 rfl ?_
  exact V_iret hC hr hlk (re_1 hf) (re_2 hf) (Rg_wr _) hs3 dX6_found_10
/-! X6_foundNothing -/
theorem kX6_foundNothing_f314 : Cond.fieldLink RX6 314 "BarkNames" "latestFinding" "I" ∈ wsX6_foundNothing := by decide +kernel
theorem uX6_foundNothing_6 : ∀ w ∈ u_ws RX6 TX6 10, w ∈ wsX6_foundNothing := by decide +kernel
abbrev rmX6_foundNothing : Room := { frames := 0, cells := 0, slots := 0, locals := 0 }
set_option maxHeartbeats 4000000 in
set_option maxRecDepth 100000 in
theorem sX6_foundNothing (l : Launch) {G : GT} (hG : GI G) {v1 : Int} (h1 : Rg v1) {σ : Hp} (hs : RgS σ) {r0 : Int × Hp} (hf : fX6_foundNothing σ v1 = some r0) : Cti l G yX6_foundNothing wsX6_foundNothing rmX6_foundNothing [rf G 6 0, iv v1] σ r0.1 r0.2 := by
  unfold fX6_foundNothing at hf
  refine Cti_start (lv := [(0, rf G 6 0), (1, iv v1)]) (ret := (some .int)) (by decide +kernel) rfl hG (Nat.le_of_ble_eq_true rfl) rfl (fun p e s m args below meth c hC hr hlk => ?_)
  refine V_aload_n (k := 0) (q := 1) hC 0 rfl dX6_foundNothing_0 rfl ?_
  refine V_iconst (q := 2) hC dX6_foundNothing_1 rfl ?_
  obtain ⟨σ1, e2, hf⟩ := sq_ex hf
  have hs3 : RgS σ1 := by rw [e2]; exact RgS_hup hs (Rg_c rfl)
  refine V_putf (T := TX6) (k := 9) (ty := .int) (q := 5) hC uX6_foundNothing_6 rfl tyX6 tyX6_ok nmX6 iD6 rfl (pf_6_9 _ _ _ _ rfl) (by decide) kX6_foundNothing_f314 rfl (by decide +kernel) rfl rfl (Nat.le_of_ble_eq_true rfl) e2 dX6_foundNothing_2 rfl ?_
  refine V_iload_n (k := 1) (q := 6) hC 1 rfl dX6_foundNothing_5 rfl ?_
  exact V_iret hC hr hlk (re_1 hf) (re_2 hf) h1 hs3 dX6_foundNothing_6
/-! X6_row -/
theorem kX6_row_c62 : Cond.constant RX6 62 (-1000001) ∈ wsX6_row := by decide +kernel
theorem kX6_row_f11 : Cond.fieldLink RX6 11 "BarkNames" "rows" "[LBarkNames$Row;" ∈ wsX6_row := by decide +kernel
theorem uX6_row_6 : ∀ w ∈ u_ws RX6 TX6 10, w ∈ wsX6_row := by decide +kernel
abbrev rmX6_row : Room := { frames := 2, cells := 0, slots := 0, locals := 45 }
set_option maxHeartbeats 4000000 in
set_option maxRecDepth 100000 in
theorem sX6_row (l : Launch) {G : GT} (hG : GI G) {v1 : Int} {v2 : Int} {v3 : Int} (h1 : Rg v1) (h2 : Rg v2) (h3 : Rg v3) {σ : Hp} (hs : RgS σ) {r0 : Int × Hp} (hf : fX6_row σ v1 v2 v3 = some r0) : Cti l G yX6_row wsX6_row rmX6_row [rf G 6 0, iv v1, iv v2, iv v3] σ r0.1 r0.2 := by
  unfold fX6_row at hf
  refine Cti_start (lv := [(0, rf G 6 0), (1, iv v1), (2, iv v2), (3, iv v3)]) (ret := (some .int)) (by decide +kernel) rfl hG (Nat.le_of_ble_eq_true rfl) rfl (fun p e s m args below meth c hC hr hlk => ?_)
  refine V_iload_n (k := 1) (q := 1) hC 1 rfl dX6_row_0 rfl ?_
  refine V_csi (st := []) (q := 4) hC (sX6_isRow l hG h1 hs) (va_cwS 1 hC.2.2.2.2.1 gX6_row_X6_isRow rfl rfl rfl (by decide +kernel) ⟨Nat.le_of_ble_eq_true rfl, Nat.le_of_ble_eq_true rfl⟩) rfl rfl (Nat.le_of_ble_eq_true rfl) dX6_row_1 rfl ⟨Nat.zero_le _, Nat.zero_le _⟩ (fun hr1 _ => ?_)
  refine V_if_eq (tgt := 22) (q := 7) hC hr1 dX6_row_4 (by decide) rfl (fun c2 => ?_) (fun c2 => ?_)
  · replace hf := (if_pos c2).symm.trans hf
    refine V_ldc (q := 24) (n := (-1000001)) hC (by decide) kX6_row_c62 dX6_row_22 rfl ?_
    exact V_iret hC hr hlk (re_1 hf) (re_2 hf) (Rg_c rfl) hs dX6_row_24
  · replace hf := (if_neg c2).symm.trans hf
    refine V_iload_n (k := 2) (q := 8) hC 2 rfl dX6_row_7 rfl ?_
    refine V_if_lt (tgt := 22) (q := 11) hC h2 dX6_row_8 (by decide) rfl (fun c3 => ?_) (fun c3 => ?_)
    · replace hf := (if_pos c3).symm.trans hf
      refine V_ldc (q := 24) (n := (-1000001)) hC (by decide) kX6_row_c62 dX6_row_22 rfl ?_
      exact V_iret hC hr hlk (re_1 hf) (re_2 hf) (Rg_c rfl) hs dX6_row_24
    · replace hf := (if_neg c3).symm.trans hf
      refine V_iload_n (k := 2) (q := 12) hC 2 rfl dX6_row_11 rfl ?_
      refine V_iconst (q := 13) hC dX6_row_12 rfl ?_
      refine V_icmp_gt (tgt := 22) (q := 16) hC h2 (Rg_c rfl) dX6_row_13 (by decide) rfl (fun c4 => ?_) (fun c4 => ?_)
      · replace hf := (if_pos c4).symm.trans hf
        refine V_ldc (q := 24) (n := (-1000001)) hC (by decide) kX6_row_c62 dX6_row_22 rfl ?_
        exact V_iret hC hr hlk (re_1 hf) (re_2 hf) (Rg_c rfl) hs dX6_row_24
      · replace hf := (if_neg c4).symm.trans hf
        refine V_iload_n (k := 3) (q := 17) hC 3 rfl dX6_row_16 rfl ?_
        refine V_bipush (q := 19) hC (by decide) dX6_row_17 rfl ?_
        refine V_icmp_le (tgt := 25) (q := 22) hC h3 (Rg_c rfl) dX6_row_19 (by decide) rfl (fun c5 => ?_) (fun c5 => ?_)
        · replace hf := (if_pos c5).symm.trans hf
          refine V_iload_n (k := 3) (q := 26) hC 3 rfl dX6_row_25 rfl ?_
          refine V_if_ge (tgt := 35) (q := 29) hC h3 dX6_row_26 (by decide) rfl (fun c6 => ?_) (fun c6 => ?_)
          · replace hf := (if_pos c6).symm.trans hf
            refine V_aload_n (k := 0) (q := 36) hC 0 rfl dX6_row_35 rfl ?_
            refine V_getf (T := TX6) (k := 0) (q := 39) hC uX6_row_6 rfl iD6 rfl (by decide) kX6_row_f11 rfl dX6_row_36 rfl ?_
            refine V_iload_n (k := 1) (q := 40) hC 1 rfl dX6_row_39 rfl ?_
            obtain ⟨g7, hf⟩ := gd_some hf
            refine V_aald20 (q := 41) hC g7 h1 dX6_row_40 rfl ?_
            have hj8 : v1.toNat < 8 := by omega
            refine V_iload_n (k := 2) (q := 42) hC 2 rfl dX6_row_41 rfl ?_
            refine V_iload_n (k := 3) (q := 43) hC 3 rfl dX6_row_42 rfl ?_
            obtain ⟨r9, σ10, hc11, hf⟩ := cl_some hf
            refine V_cvv (st := []) (q := 46) (σ0 := σ10) hC (sX3_begin l hG hj8 h2 h3 hs hc11) (cwV 2 hC.2.2.2.2.1 gX6_row_X3_begin rfl rfl rfl (by decide +kernel) ⟨Nat.le_of_ble_eq_true rfl, Nat.le_of_ble_eq_true rfl⟩) ⟨_, rfl, rfl⟩ (iM3 hj8) (fun _ => ⟨_, rfl⟩) rfl rfl (Nat.le_of_ble_eq_true rfl) dX6_row_43 rfl ⟨Nat.zero_le _, Nat.zero_le _⟩ (fun hs13 => ?_)
            refine V_aload_n (k := 0) (q := 47) hC 0 rfl dX6_row_46 rfl ?_
            refine V_iload_n (k := 3) (q := 48) hC 3 rfl dX6_row_47 rfl ?_
            obtain ⟨r14, σ15, hc16, hf⟩ := cl_some hf
            refine V_cvi (st := []) (q := 51) (x0 := r14) (σ0 := σ15) hC (sX6_foundNothing l hG h3 hs13 hc16) (cwV 1 hC.2.2.2.2.1 gX6_row_X6_foundNothing rfl rfl rfl (by decide +kernel) ⟨Nat.le_of_ble_eq_true rfl, Nat.le_of_ble_eq_true rfl⟩) ⟨_, rfl, rfl⟩ iD6 (fun _ => ⟨_, rfl⟩) rfl rfl (Nat.le_of_ble_eq_true rfl) dX6_row_48 rfl ⟨Nat.zero_le _, Nat.zero_le _⟩ (fun hr17 hs18 => ?_)
            exact V_iret hC hr hlk (re_1 hf) (re_2 hf) hr17 hs18 dX6_row_51
          · replace hf := (if_neg c6).symm.trans hf
            refine V_aload_n (k := 0) (q := 30) hC 0 rfl dX6_row_29 rfl ?_
            refine V_iconst (q := 31) hC dX6_row_30 rfl ?_
            obtain ⟨r19, σ20, hc21, hf⟩ := cl_some hf
            refine V_cvi (st := []) (q := 34) (x0 := r19) (σ0 := σ20) hC (sX6_found l hG (Rg_c rfl) hs hc21) (cwV 1 hC.2.2.2.2.1 gX6_row_X6_found rfl rfl rfl (by decide +kernel) ⟨Nat.le_of_ble_eq_true rfl, Nat.le_of_ble_eq_true rfl⟩) ⟨_, rfl, rfl⟩ iD6 (fun _ => ⟨_, rfl⟩) rfl rfl (Nat.le_of_ble_eq_true rfl) dX6_row_31 rfl ⟨Nat.zero_le _, Nat.zero_le _⟩ (fun hr22 hs23 => ?_)
            exact V_iret hC hr hlk (re_1 hf) (re_2 hf) hr22 hs23 dX6_row_34
        · replace hf := (if_neg c5).symm.trans hf
          refine V_ldc (q := 24) (n := (-1000001)) hC (by decide) kX6_row_c62 dX6_row_22 rfl ?_
          exact V_iret hC hr hlk (re_1 hf) (re_2 hf) (Rg_c rfl) hs dX6_row_24
/-! X6_findingIn -/
theorem kX6_findingIn_f85 : Cond.fieldLink RX6 85 "BarkNames$Row" "there" "Z" ∈ wsX6_findingIn := by decide +kernel
theorem uX6_findingIn_3 : ∀ w ∈ u_ws RX3 TX3 4, w ∈ wsX6_findingIn := by decide +kernel
abbrev rmX6_findingIn : Room := { frames := 1, cells := 0, slots := 0, locals := 22 }
set_option maxHeartbeats 4000000 in
set_option maxRecDepth 100000 in
theorem sX6_findingIn (l : Launch) {G : GT} (hG : GI G) {j0 : Nat} {v1 : Int} {v2 : Int} (hj0 : j0 < 8) (h1 : Rg v1) (h2 : Rg v2) {σ : Hp} (hs : RgS σ) : Cti l G yX6_findingIn wsX6_findingIn rmX6_findingIn [rf G 3 j0, iv v1, iv v2] σ (fX6_findingIn σ j0 v1 v2) σ := by
  obtain ⟨x0, hf⟩ : ∃ x, fX6_findingIn σ j0 v1 v2 = x := ⟨_, rfl⟩
  rw [hf]
  unfold fX6_findingIn at hf
  refine Cti_start (lv := [(0, rf G 3 j0), (1, iv v1), (2, iv v2)]) (ret := (some .int)) (by decide +kernel) rfl hG (Nat.le_of_ble_eq_true rfl) rfl (fun p e s m args below meth c hC hr hlk => ?_)
  refine V_aload_n (k := 0) (q := 1) hC 0 rfl dX6_findingIn_0 rfl ?_
  refine V_getf (T := TX3) (k := 1) (q := 4) hC uX6_findingIn_3 rfl (iM3 hj0) rfl (by decide) kX6_findingIn_f85 rfl dX6_findingIn_1 rfl ?_
  refine V_if_ne (tgt := 9) (q := 7) hC (hs _ _ _) dX6_findingIn_4 (by decide) rfl (fun c1 => ?_) (fun c1 => ?_)
  · replace hf := (if_neg c1).symm.trans hf
    refine V_aload_n (k := 0) (q := 10) hC 0 rfl dX6_findingIn_9 rfl ?_
    refine V_iload_n (k := 1) (q := 11) hC 1 rfl dX6_findingIn_10 rfl ?_
    refine V_iload_n (k := 2) (q := 12) hC 2 rfl dX6_findingIn_11 rfl ?_
    refine V_cvi (st := []) (q := 15) hC (sX3_spans l hG hj0 h1 h2 hs) (cwV 2 hC.2.2.2.2.1 gX6_findingIn_X3_spans rfl rfl rfl (by decide +kernel) ⟨Nat.le_of_ble_eq_true rfl, Nat.le_of_ble_eq_true rfl⟩) ⟨_, rfl, rfl⟩ (iM3 hj0) (fun _ => ⟨_, rfl⟩) rfl rfl (Nat.le_of_ble_eq_true rfl) dX6_findingIn_12 rfl ⟨Nat.zero_le _, Nat.zero_le _⟩ (fun hr2 _ => ?_)
    refine V_if_eq (tgt := 22) (q := 18) hC hr2 dX6_findingIn_15 (by decide) rfl (fun c3 => ?_) (fun c3 => ?_)
    · replace hf := (if_pos c3).symm.trans hf
      refine V_iconst (q := 23) hC dX6_findingIn_22 rfl ?_
      exact V_iret hC hr hlk hf rfl (Rg_c rfl) hs dX6_findingIn_23
    · replace hf := (if_neg c3).symm.trans hf
      refine V_iconst (q := 19) hC dX6_findingIn_18 rfl ?_
      refine V_goto (tgt := 23) hC dX6_findingIn_19 (by decide) ?_
      exact V_iret hC hr hlk hf rfl (Rg_c rfl) hs dX6_findingIn_23
  · replace hf := (if_pos c1).symm.trans hf
    refine V_iconst (q := 8) hC dX6_findingIn_7 rfl ?_
    exact V_iret hC hr hlk hf rfl (Rg_c rfl) hs dX6_findingIn_8
/-! X6_set -/
theorem kX6_set_f11 : Cond.fieldLink RX6 11 "BarkNames" "rows" "[LBarkNames$Row;" ∈ wsX6_set := by decide +kernel
theorem uX6_set_6 : ∀ w ∈ u_ws RX6 TX6 10, w ∈ wsX6_set := by decide +kernel
theorem kX6_set_f78 : Cond.fieldLink RX6 78 "BarkNames$Row" "items" "[I" ∈ wsX6_set := by decide +kernel
theorem uX6_set_3 : ∀ w ∈ u_ws RX3 TX3 4, w ∈ wsX6_set := by decide +kernel
theorem kX6_set_c62 : Cond.constant RX6 62 (-1000001) ∈ wsX6_set := by decide +kernel
abbrev rmX6_set : Room := { frames := 2, cells := 0, slots := 0, locals := 44 }
set_option maxHeartbeats 4000000 in
set_option maxRecDepth 100000 in
theorem sX6_set (l : Launch) {G : GT} (hG : GI G) {v1 : Int} {v2 : Int} {v3 : Int} (h1 : Rg v1) (h2 : Rg v2) (h3 : Rg v3) {σ : Hp} (hs : RgS σ) {r0 : Int × Hp} (hf : fX6_set σ v1 v2 v3 = some r0) : Cti l G yX6_set wsX6_set rmX6_set [rf G 6 0, iv v1, iv v2, iv v3] σ r0.1 r0.2 := by
  unfold fX6_set at hf
  refine Cti_start (lv := [(0, rf G 6 0), (1, iv v1), (2, iv v2), (3, iv v3)]) (ret := (some .int)) (by decide +kernel) rfl hG (Nat.le_of_ble_eq_true rfl) rfl (fun p e s m args below meth c hC hr hlk => ?_)
  refine V_iload_n (k := 1) (q := 1) hC 1 rfl dX6_set_0 rfl ?_
  refine V_csi (st := []) (q := 4) hC (sX6_isRow l hG h1 hs) (va_cwS 1 hC.2.2.2.2.1 gX6_set_X6_isRow rfl rfl rfl (by decide +kernel) ⟨Nat.le_of_ble_eq_true rfl, Nat.le_of_ble_eq_true rfl⟩) rfl rfl (Nat.le_of_ble_eq_true rfl) dX6_set_1 rfl ⟨Nat.zero_le _, Nat.zero_le _⟩ (fun hr1 _ => ?_)
  refine V_if_ne (tgt := 10) (q := 7) hC hr1 dX6_set_4 (by decide) rfl (fun c2 => ?_) (fun c2 => ?_)
  · replace hf := (if_neg c2).symm.trans hf
    refine V_aload_n (k := 0) (q := 11) hC 0 rfl dX6_set_10 rfl ?_
    refine V_getf (T := TX6) (k := 0) (q := 14) hC uX6_set_6 rfl iD6 rfl (by decide) kX6_set_f11 rfl dX6_set_11 rfl ?_
    refine V_iload_n (k := 1) (q := 15) hC 1 rfl dX6_set_14 rfl ?_
    obtain ⟨g3, hf⟩ := gd_some hf
    refine V_aald20 (q := 16) hC g3 h1 dX6_set_15 rfl ?_
    have hj4 : v1.toNat < 8 := by omega
    refine V_iload_n (k := 2) (q := 17) hC 2 rfl dX6_set_16 rfl ?_
    refine V_iconst (q := 18) hC dX6_set_17 rfl ?_
    refine V_csi (st := []) (q := 21) hC (sX6_findingIn l hG hj4 h2 (Rg_c rfl) hs) (va_cwS 3 hC.2.2.2.2.1 gX6_set_X6_findingIn rfl rfl rfl (by decide +kernel) ⟨Nat.le_of_ble_eq_true rfl, Nat.le_of_ble_eq_true rfl⟩) rfl rfl (Nat.le_of_ble_eq_true rfl) dX6_set_18 rfl ⟨Nat.zero_le _, Nat.zero_le _⟩ (fun hr5 _ => ?_)
    refine V_istore (i := 4) (lv' := [(0, rf G 6 0), (1, iv v1), (2, iv v2), (3, iv v3), (4, iv (fX6_findingIn σ v1.toNat v2 1))]) (q := 23) hC [1, 2, 3, 4, 0] (by decide) rfl dX6_set_21 rfl ?_
    refine V_iload (k := 4) (q := 25) hC 4 rfl dX6_set_23 rfl ?_
    refine V_if_eq (tgt := 35) (q := 28) hC hr5 dX6_set_25 (by decide) rfl (fun c6 => ?_) (fun c6 => ?_)
    · replace hf := (if_pos c6).symm.trans hf
      refine V_aload_n (k := 0) (q := 36) hC 0 rfl dX6_set_35 rfl ?_
      refine V_getf (T := TX6) (k := 0) (q := 39) hC uX6_set_6 rfl iD6 rfl (by decide) kX6_set_f11 rfl dX6_set_36 rfl ?_
      refine V_iload_n (k := 1) (q := 40) hC 1 rfl dX6_set_39 rfl ?_
      obtain ⟨g7, hf⟩ := gd_some hf
      refine V_aald20 (q := 41) hC g7 h1 dX6_set_40 rfl ?_
      have hj8 : v1.toNat < 8 := by omega
      refine V_getf (T := TX3) (k := 0) (q := 44) hC uX6_set_3 rfl (iM3 hj8) rfl (by decide) kX6_set_f78 rfl dX6_set_41 rfl ?_
      refine V_iload_n (k := 2) (q := 45) hC 2 rfl dX6_set_44 rfl ?_
      refine V_aload_n (k := 0) (q := 46) hC 0 rfl dX6_set_45 rfl ?_
      refine V_getf (T := TX6) (k := 0) (q := 49) hC uX6_set_6 rfl iD6 rfl (by decide) kX6_set_f11 rfl dX6_set_46 rfl ?_
      refine V_iload_n (k := 1) (q := 50) hC 1 rfl dX6_set_49 rfl ?_
      obtain ⟨g9, hf⟩ := gd_some hf
      refine V_aald20 (q := 51) hC g9 h1 dX6_set_50 rfl ?_
      have hj10 : v1.toNat < 8 := by omega
      refine V_iload_n (k := 3) (q := 52) hC 3 rfl dX6_set_51 rfl ?_
      refine V_cvi (st := [iv v2, rf G 11 v1.toNat]) (q := 55) hC (sX3_narrowed l hG hj10 h3 hs) (cwV 1 hC.2.2.2.2.1 gX6_set_X3_narrowed rfl rfl rfl (by decide +kernel) ⟨Nat.le_of_ble_eq_true rfl, Nat.le_of_ble_eq_true rfl⟩) ⟨_, rfl, rfl⟩ (iM3 hj10) (fun _ => ⟨_, rfl⟩) rfl rfl (Nat.le_of_ble_eq_true rfl) dX6_set_52 rfl ⟨Nat.zero_le _, Nat.zero_le _⟩ (fun hr11 _ => ?_)
      obtain ⟨g12, hf⟩ := gd_some hf
      obtain ⟨σ13, e14, hf⟩ := sq_ex hf
      have hs15 : RgS σ13 := by rw [e14]; exact RgS_hup hs hr11
      refine V_iast (n := 40) (q := 56) hC (iM11 hj8) rfl g12 h2 e14 dX6_set_55 rfl ?_
      refine V_aload_n (k := 0) (q := 57) hC 0 rfl dX6_set_56 rfl ?_
      refine V_aload_n (k := 0) (q := 58) hC 0 rfl dX6_set_57 rfl ?_
      refine V_getf (T := TX6) (k := 0) (q := 61) hC uX6_set_6 rfl iD6 rfl (by decide) kX6_set_f11 rfl dX6_set_58 rfl ?_
      refine V_iload_n (k := 1) (q := 62) hC 1 rfl dX6_set_61 rfl ?_
      obtain ⟨g16, hf⟩ := gd_some hf
      refine V_aald20 (q := 63) hC g16 h1 dX6_set_62 rfl ?_
      have hj17 : v1.toNat < 8 := by omega
      refine V_getf (T := TX3) (k := 0) (q := 66) hC uX6_set_3 rfl (iM3 hj17) rfl (by decide) kX6_set_f78 rfl dX6_set_63 rfl ?_
      refine V_iload_n (k := 2) (q := 67) hC 2 rfl dX6_set_66 rfl ?_
      obtain ⟨g18, hf⟩ := gd_some hf
      refine V_iald (n := 40) (q := 68) hC (iM11 hj17) rfl g18 h2 dX6_set_67 rfl ?_
      obtain ⟨r19, σ20, hc21, hf⟩ := cl_some hf
      refine V_cvi (st := []) (q := 71) (x0 := r19) (σ0 := σ20) hC (sX6_foundNothing l hG (hs15 _ _ _) hs15 hc21) (cwV 1 hC.2.2.2.2.1 gX6_set_X6_foundNothing rfl rfl rfl (by decide +kernel) ⟨Nat.le_of_ble_eq_true rfl, Nat.le_of_ble_eq_true rfl⟩) ⟨_, rfl, rfl⟩ iD6 (fun _ => ⟨_, rfl⟩) rfl rfl (Nat.le_of_ble_eq_true rfl) dX6_set_68 rfl ⟨Nat.zero_le _, Nat.zero_le _⟩ (fun hr22 hs23 => ?_)
      exact V_iret hC hr hlk (re_1 hf) (re_2 hf) hr22 hs23 dX6_set_71
    · replace hf := (if_neg c6).symm.trans hf
      refine V_aload_n (k := 0) (q := 29) hC 0 rfl dX6_set_28 rfl ?_
      refine V_iload (k := 4) (q := 31) hC 4 rfl dX6_set_29 rfl ?_
      obtain ⟨r24, σ25, hc26, hf⟩ := cl_some hf
      refine V_cvi (st := []) (q := 34) (x0 := r24) (σ0 := σ25) hC (sX6_found l hG hr5 hs hc26) (cwV 1 hC.2.2.2.2.1 gX6_set_X6_found rfl rfl rfl (by decide +kernel) ⟨Nat.le_of_ble_eq_true rfl, Nat.le_of_ble_eq_true rfl⟩) ⟨_, rfl, rfl⟩ iD6 (fun _ => ⟨_, rfl⟩) rfl rfl (Nat.le_of_ble_eq_true rfl) dX6_set_31 rfl ⟨Nat.zero_le _, Nat.zero_le _⟩ (fun hr27 hs28 => ?_)
      exact V_iret hC hr hlk (re_1 hf) (re_2 hf) hr27 hs28 dX6_set_34
  · replace hf := (if_pos c2).symm.trans hf
    refine V_ldc (q := 9) (n := (-1000001)) hC (by decide) kX6_set_c62 dX6_set_7 rfl ?_
    exact V_iret hC hr hlk (re_1 hf) (re_2 hf) (Rg_c rfl) hs dX6_set_9
/-! X6_copy -/
theorem kX6_copy_c62 : Cond.constant RX6 62 (-1000001) ∈ wsX6_copy := by decide +kernel
theorem kX6_copy_f11 : Cond.fieldLink RX6 11 "BarkNames" "rows" "[LBarkNames$Row;" ∈ wsX6_copy := by decide +kernel
theorem uX6_copy_6 : ∀ w ∈ u_ws RX6 TX6 10, w ∈ wsX6_copy := by decide +kernel
theorem kX6_copy_f85 : Cond.fieldLink RX6 85 "BarkNames$Row" "there" "Z" ∈ wsX6_copy := by decide +kernel
theorem uX6_copy_3 : ∀ w ∈ u_ws RX3 TX3 4, w ∈ wsX6_copy := by decide +kernel
theorem kX6_copy_f89 : Cond.fieldLink RX6 89 "BarkNames$Row" "lane" "I" ∈ wsX6_copy := by decide +kernel
theorem kX6_copy_f78 : Cond.fieldLink RX6 78 "BarkNames$Row" "items" "[I" ∈ wsX6_copy := by decide +kernel
theorem kX6_copy_m97 : Cond.methodLink RX6 97 arraycopyName ∈ wsX6_copy := by decide +kernel
theorem kX6_copy_nac : Cond.native arraycopyName ∈ wsX6_copy := by decide +kernel
theorem kX6_copy_sac : Cond.static arraycopyName ∈ wsX6_copy := by decide +kernel
theorem kX6_copy_iSys : Cond.initialized "java/lang/System" ∈ wsX6_copy := by decide +kernel
abbrev rmX6_copy : Room := { frames := 2, cells := 0, slots := 0, locals := 41 }
set_option maxHeartbeats 4000000 in
set_option maxRecDepth 100000 in
theorem sX6_copy (l : Launch) {G : GT} (hG : GI G) {v1 : Int} {v2 : Int} {v3 : Int} {v4 : Int} {v5 : Int} (h1 : Rg v1) (h2 : Rg v2) (h3 : Rg v3) (h4 : Rg v4) (h5 : Rg v5) {σ : Hp} (hs : RgS σ) {r0 : Int × Hp} (hf : fX6_copy σ v1 v2 v3 v4 v5 = some r0) : Cti l G yX6_copy wsX6_copy rmX6_copy [rf G 6 0, iv v1, iv v2, iv v3, iv v4, iv v5] σ r0.1 r0.2 := by
  unfold fX6_copy at hf
  refine Cti_start (lv := [(0, rf G 6 0), (1, iv v1), (2, iv v2), (3, iv v3), (4, iv v4), (5, iv v5)]) (ret := (some .int)) (by decide +kernel) rfl hG (Nat.le_of_ble_eq_true rfl) rfl (fun p e s m args below meth c hC hr hlk => ?_)
  refine V_iload_n (k := 1) (q := 1) hC 1 rfl dX6_copy_0 rfl ?_
  refine V_csi (st := []) (q := 4) hC (sX6_isRow l hG h1 hs) (va_cwS 1 hC.2.2.2.2.1 gX6_copy_X6_isRow rfl rfl rfl (by decide +kernel) ⟨Nat.le_of_ble_eq_true rfl, Nat.le_of_ble_eq_true rfl⟩) rfl rfl (Nat.le_of_ble_eq_true rfl) dX6_copy_1 rfl ⟨Nat.zero_le _, Nat.zero_le _⟩ (fun hr1 _ => ?_)
  refine V_if_eq (tgt := 14) (q := 7) hC hr1 dX6_copy_4 (by decide) rfl (fun c2 => ?_) (fun c2 => ?_)
  · replace hf := (if_pos c2).symm.trans hf
    refine V_ldc (q := 16) (n := (-1000001)) hC (by decide) kX6_copy_c62 dX6_copy_14 rfl ?_
    exact V_iret hC hr hlk (re_1 hf) (re_2 hf) (Rg_c rfl) hs dX6_copy_16
  · replace hf := (if_neg c2).symm.trans hf
    refine V_iload_n (k := 3) (q := 8) hC 3 rfl dX6_copy_7 rfl ?_
    refine V_csi (st := []) (q := 11) hC (sX6_isRow l hG h3 hs) (va_cwS 1 hC.2.2.2.2.1 gX6_copy_X6_isRow rfl rfl rfl (by decide +kernel) ⟨Nat.le_of_ble_eq_true rfl, Nat.le_of_ble_eq_true rfl⟩) rfl rfl (Nat.le_of_ble_eq_true rfl) dX6_copy_8 rfl ⟨Nat.zero_le _, Nat.zero_le _⟩ (fun hr3 _ => ?_)
    refine V_if_ne (tgt := 17) (q := 14) hC hr3 dX6_copy_11 (by decide) rfl (fun c4 => ?_) (fun c4 => ?_)
    · replace hf := (if_neg c4).symm.trans hf
      refine V_aload_n (k := 0) (q := 18) hC 0 rfl dX6_copy_17 rfl ?_
      refine V_getf (T := TX6) (k := 0) (q := 21) hC uX6_copy_6 rfl iD6 rfl (by decide) kX6_copy_f11 rfl dX6_copy_18 rfl ?_
      refine V_iload_n (k := 1) (q := 22) hC 1 rfl dX6_copy_21 rfl ?_
      obtain ⟨g5, hf⟩ := gd_some hf
      refine V_aald20 (q := 23) hC g5 h1 dX6_copy_22 rfl ?_
      have hj6 : v1.toNat < 8 := by omega
      refine V_astore (i := 6) (lv' := [(0, rf G 6 0), (1, iv v1), (2, iv v2), (3, iv v3), (4, iv v4), (5, iv v5), (6, rf G 3 v1.toNat)]) (q := 25) hC [1, 2, 3, 4, 5, 6, 0] (by decide) rfl dX6_copy_23 rfl ?_
      refine V_aload_n (k := 0) (q := 26) hC 0 rfl dX6_copy_25 rfl ?_
      refine V_getf (T := TX6) (k := 0) (q := 29) hC uX6_copy_6 rfl iD6 rfl (by decide) kX6_copy_f11 rfl dX6_copy_26 rfl ?_
      refine V_iload_n (k := 3) (q := 30) hC 3 rfl dX6_copy_29 rfl ?_
      obtain ⟨g7, hf⟩ := gd_some hf
      refine V_aald20 (q := 31) hC g7 h3 dX6_copy_30 rfl ?_
      have hj8 : v3.toNat < 8 := by omega
      refine V_astore (i := 7) (lv' := [(0, rf G 6 0), (1, iv v1), (2, iv v2), (3, iv v3), (4, iv v4), (5, iv v5), (6, rf G 3 v1.toNat), (7, rf G 3 v3.toNat)]) (q := 33) hC [1, 2, 3, 4, 5, 6, 7, 0] (by decide) rfl dX6_copy_31 rfl ?_
      refine V_aload (k := 6) (q := 35) hC 6 rfl dX6_copy_33 rfl ?_
      refine V_getf (T := TX3) (k := 1) (q := 38) hC uX6_copy_3 rfl (iM3 hj6) rfl (by decide) kX6_copy_f85 rfl dX6_copy_35 rfl ?_
      refine V_if_eq (tgt := 49) (q := 41) hC (hs _ _ _) dX6_copy_38 (by decide) rfl (fun c9 => ?_) (fun c9 => ?_)
      · replace hf := (if_pos c9).symm.trans hf
        refine V_aload_n (k := 0) (q := 50) hC 0 rfl dX6_copy_49 rfl ?_
        refine V_iconst (q := 51) hC dX6_copy_50 rfl ?_
        obtain ⟨r10, σ11, hc12, hf⟩ := cl_some hf
        refine V_cvi (st := []) (q := 54) (x0 := r10) (σ0 := σ11) hC (sX6_found l hG (Rg_c rfl) hs hc12) (cwV 1 hC.2.2.2.2.1 gX6_copy_X6_found rfl rfl rfl (by decide +kernel) ⟨Nat.le_of_ble_eq_true rfl, Nat.le_of_ble_eq_true rfl⟩) ⟨_, rfl, rfl⟩ iD6 (fun _ => ⟨_, rfl⟩) rfl rfl (Nat.le_of_ble_eq_true rfl) dX6_copy_51 rfl ⟨Nat.zero_le _, Nat.zero_le _⟩ (fun hr13 hs14 => ?_)
        exact V_iret hC hr hlk (re_1 hf) (re_2 hf) hr13 hs14 dX6_copy_54
      · replace hf := (if_neg c9).symm.trans hf
        refine V_aload (k := 7) (q := 43) hC 7 rfl dX6_copy_41 rfl ?_
        refine V_getf (T := TX3) (k := 1) (q := 46) hC uX6_copy_3 rfl (iM3 hj8) rfl (by decide) kX6_copy_f85 rfl dX6_copy_43 rfl ?_
        refine V_if_ne (tgt := 55) (q := 49) hC (hs _ _ _) dX6_copy_46 (by decide) rfl (fun c15 => ?_) (fun c15 => ?_)
        · replace hf := (if_neg c15).symm.trans hf
          refine V_aload (k := 6) (q := 57) hC 6 rfl dX6_copy_55 rfl ?_
          refine V_getf (T := TX3) (k := 2) (q := 60) hC uX6_copy_3 rfl (iM3 hj6) rfl (by decide) kX6_copy_f89 rfl dX6_copy_57 rfl ?_
          refine V_aload (k := 7) (q := 62) hC 7 rfl dX6_copy_60 rfl ?_
          refine V_getf (T := TX3) (k := 2) (q := 65) hC uX6_copy_3 rfl (iM3 hj8) rfl (by decide) kX6_copy_f89 rfl dX6_copy_62 rfl ?_
          refine V_icmp_eq (tgt := 74) (q := 68) hC (hs _ _ _) (hs _ _ _) dX6_copy_65 (by decide) rfl (fun c16 => ?_) (fun c16 => ?_)
          · replace hf := (if_pos c16).symm.trans hf
            refine V_aload (k := 6) (q := 76) hC 6 rfl dX6_copy_74 rfl ?_
            refine V_iload_n (k := 2) (q := 77) hC 2 rfl dX6_copy_76 rfl ?_
            refine V_iload (k := 5) (q := 79) hC 5 rfl dX6_copy_77 rfl ?_
            refine V_cvi (st := []) (q := 82) hC (sX3_spans l hG hj6 h2 h5 hs) (cwV 2 hC.2.2.2.2.1 gX6_copy_X3_spans rfl rfl rfl (by decide +kernel) ⟨Nat.le_of_ble_eq_true rfl, Nat.le_of_ble_eq_true rfl⟩) ⟨_, rfl, rfl⟩ (iM3 hj6) (fun _ => ⟨_, rfl⟩) rfl rfl (Nat.le_of_ble_eq_true rfl) dX6_copy_79 rfl ⟨Nat.zero_le _, Nat.zero_le _⟩ (fun hr17 _ => ?_)
            refine V_if_eq (tgt := 97) (q := 85) hC hr17 dX6_copy_82 (by decide) rfl (fun c18 => ?_) (fun c18 => ?_)
            · replace hf := (if_pos c18).symm.trans hf
              refine V_aload_n (k := 0) (q := 98) hC 0 rfl dX6_copy_97 rfl ?_
              refine V_iconst (q := 99) hC dX6_copy_98 rfl ?_
              obtain ⟨r19, σ20, hc21, hf⟩ := cl_some hf
              refine V_cvi (st := []) (q := 102) (x0 := r19) (σ0 := σ20) hC (sX6_found l hG (Rg_c rfl) hs hc21) (cwV 1 hC.2.2.2.2.1 gX6_copy_X6_found rfl rfl rfl (by decide +kernel) ⟨Nat.le_of_ble_eq_true rfl, Nat.le_of_ble_eq_true rfl⟩) ⟨_, rfl, rfl⟩ iD6 (fun _ => ⟨_, rfl⟩) rfl rfl (Nat.le_of_ble_eq_true rfl) dX6_copy_99 rfl ⟨Nat.zero_le _, Nat.zero_le _⟩ (fun hr22 hs23 => ?_)
              exact V_iret hC hr hlk (re_1 hf) (re_2 hf) hr22 hs23 dX6_copy_102
            · replace hf := (if_neg c18).symm.trans hf
              refine V_aload (k := 7) (q := 87) hC 7 rfl dX6_copy_85 rfl ?_
              refine V_iload (k := 4) (q := 89) hC 4 rfl dX6_copy_87 rfl ?_
              refine V_iload (k := 5) (q := 91) hC 5 rfl dX6_copy_89 rfl ?_
              refine V_cvi (st := []) (q := 94) hC (sX3_spans l hG hj8 h4 h5 hs) (cwV 2 hC.2.2.2.2.1 gX6_copy_X3_spans rfl rfl rfl (by decide +kernel) ⟨Nat.le_of_ble_eq_true rfl, Nat.le_of_ble_eq_true rfl⟩) ⟨_, rfl, rfl⟩ (iM3 hj8) (fun _ => ⟨_, rfl⟩) rfl rfl (Nat.le_of_ble_eq_true rfl) dX6_copy_91 rfl ⟨Nat.zero_le _, Nat.zero_le _⟩ (fun hr24 _ => ?_)
              refine V_if_ne (tgt := 103) (q := 97) hC hr24 dX6_copy_94 (by decide) rfl (fun c25 => ?_) (fun c25 => ?_)
              · replace hf := (if_neg c25).symm.trans hf
                refine V_aload (k := 6) (q := 105) hC 6 rfl dX6_copy_103 rfl ?_
                refine V_getf (T := TX3) (k := 0) (q := 108) hC uX6_copy_3 rfl (iM3 hj6) rfl (by decide) kX6_copy_f78 rfl dX6_copy_105 rfl ?_
                refine V_iload_n (k := 2) (q := 109) hC 2 rfl dX6_copy_108 rfl ?_
                refine V_aload (k := 7) (q := 111) hC 7 rfl dX6_copy_109 rfl ?_
                refine V_getf (T := TX3) (k := 0) (q := 114) hC uX6_copy_3 rfl (iM3 hj8) rfl (by decide) kX6_copy_f78 rfl dX6_copy_111 rfl ?_
                refine V_iload (k := 4) (q := 116) hC 4 rfl dX6_copy_114 rfl ?_
                refine V_iload (k := 5) (q := 118) hC 5 rfl dX6_copy_116 rfl ?_
                obtain ⟨g26, hf⟩ := gd_some hf
                obtain ⟨σ27, e28, hf⟩ := sq_ex hf
                have hs29 : RgS σ27 := by rw [e28]; exact RgS_hcp hs
                refine V_acopy (n1 := 40) (n2 := 40) (q := 121) hC (iM11 hj6) (iM11 hj8) rfl rfl (by decide) (by decide) g26 h2 h4 h5 kX6_copy_m97 kX6_copy_nac kX6_copy_sac kX6_copy_iSys ⟨Nat.le_of_ble_eq_true rfl, Nat.le_of_ble_eq_true rfl⟩ e28 dX6_copy_118 rfl ?_
                refine V_aload_n (k := 0) (q := 122) hC 0 rfl dX6_copy_121 rfl ?_
                refine V_iload (k := 5) (q := 124) hC 5 rfl dX6_copy_122 rfl ?_
                obtain ⟨r30, σ31, hc32, hf⟩ := cl_some hf
                refine V_cvi (st := []) (q := 127) (x0 := r30) (σ0 := σ31) hC (sX6_foundNothing l hG h5 hs29 hc32) (cwV 1 hC.2.2.2.2.1 gX6_copy_X6_foundNothing rfl rfl rfl (by decide +kernel) ⟨Nat.le_of_ble_eq_true rfl, Nat.le_of_ble_eq_true rfl⟩) ⟨_, rfl, rfl⟩ iD6 (fun _ => ⟨_, rfl⟩) rfl rfl (Nat.le_of_ble_eq_true rfl) dX6_copy_124 rfl ⟨Nat.zero_le _, Nat.zero_le _⟩ (fun hr33 hs34 => ?_)
                exact V_iret hC hr hlk (re_1 hf) (re_2 hf) hr33 hs34 dX6_copy_127
              · replace hf := (if_pos c25).symm.trans hf
                refine V_aload_n (k := 0) (q := 98) hC 0 rfl dX6_copy_97 rfl ?_
                refine V_iconst (q := 99) hC dX6_copy_98 rfl ?_
                obtain ⟨r35, σ36, hc37, hf⟩ := cl_some hf
                refine V_cvi (st := []) (q := 102) (x0 := r35) (σ0 := σ36) hC (sX6_found l hG (Rg_c rfl) hs hc37) (cwV 1 hC.2.2.2.2.1 gX6_copy_X6_found rfl rfl rfl (by decide +kernel) ⟨Nat.le_of_ble_eq_true rfl, Nat.le_of_ble_eq_true rfl⟩) ⟨_, rfl, rfl⟩ iD6 (fun _ => ⟨_, rfl⟩) rfl rfl (Nat.le_of_ble_eq_true rfl) dX6_copy_99 rfl ⟨Nat.zero_le _, Nat.zero_le _⟩ (fun hr38 hs39 => ?_)
                exact V_iret hC hr hlk (re_1 hf) (re_2 hf) hr38 hs39 dX6_copy_102
          · replace hf := (if_neg c16).symm.trans hf
            refine V_aload_n (k := 0) (q := 69) hC 0 rfl dX6_copy_68 rfl ?_
            refine V_iconst (q := 70) hC dX6_copy_69 rfl ?_
            obtain ⟨r40, σ41, hc42, hf⟩ := cl_some hf
            refine V_cvi (st := []) (q := 73) (x0 := r40) (σ0 := σ41) hC (sX6_found l hG (Rg_c rfl) hs hc42) (cwV 1 hC.2.2.2.2.1 gX6_copy_X6_found rfl rfl rfl (by decide +kernel) ⟨Nat.le_of_ble_eq_true rfl, Nat.le_of_ble_eq_true rfl⟩) ⟨_, rfl, rfl⟩ iD6 (fun _ => ⟨_, rfl⟩) rfl rfl (Nat.le_of_ble_eq_true rfl) dX6_copy_70 rfl ⟨Nat.zero_le _, Nat.zero_le _⟩ (fun hr43 hs44 => ?_)
            exact V_iret hC hr hlk (re_1 hf) (re_2 hf) hr43 hs44 dX6_copy_73
        · replace hf := (if_pos c15).symm.trans hf
          refine V_aload_n (k := 0) (q := 50) hC 0 rfl dX6_copy_49 rfl ?_
          refine V_iconst (q := 51) hC dX6_copy_50 rfl ?_
          obtain ⟨r45, σ46, hc47, hf⟩ := cl_some hf
          refine V_cvi (st := []) (q := 54) (x0 := r45) (σ0 := σ46) hC (sX6_found l hG (Rg_c rfl) hs hc47) (cwV 1 hC.2.2.2.2.1 gX6_copy_X6_found rfl rfl rfl (by decide +kernel) ⟨Nat.le_of_ble_eq_true rfl, Nat.le_of_ble_eq_true rfl⟩) ⟨_, rfl, rfl⟩ iD6 (fun _ => ⟨_, rfl⟩) rfl rfl (Nat.le_of_ble_eq_true rfl) dX6_copy_51 rfl ⟨Nat.zero_le _, Nat.zero_le _⟩ (fun hr48 hs49 => ?_)
          exact V_iret hC hr hlk (re_1 hf) (re_2 hf) hr48 hs49 dX6_copy_54
    · replace hf := (if_pos c4).symm.trans hf
      refine V_ldc (q := 16) (n := (-1000001)) hC (by decide) kX6_copy_c62 dX6_copy_14 rfl ?_
      exact V_iret hC hr hlk (re_1 hf) (re_2 hf) (Rg_c rfl) hs dX6_copy_16
/-! X6_drop -/
theorem kX6_drop_f11 : Cond.fieldLink RX6 11 "BarkNames" "rows" "[LBarkNames$Row;" ∈ wsX6_drop := by decide +kernel
theorem uX6_drop_6 : ∀ w ∈ u_ws RX6 TX6 10, w ∈ wsX6_drop := by decide +kernel
theorem kX6_drop_f85 : Cond.fieldLink RX6 85 "BarkNames$Row" "there" "Z" ∈ wsX6_drop := by decide +kernel
theorem uX6_drop_3 : ∀ w ∈ u_ws RX3 TX3 4, w ∈ wsX6_drop := by decide +kernel
theorem kX6_drop_f103 : Cond.fieldLink RX6 103 "BarkNames$Row" "size" "I" ∈ wsX6_drop := by decide +kernel
theorem kX6_drop_c62 : Cond.constant RX6 62 (-1000001) ∈ wsX6_drop := by decide +kernel
abbrev rmX6_drop : Room := { frames := 2, cells := 0, slots := 0, locals := 41 }
set_option maxHeartbeats 4000000 in
set_option maxRecDepth 100000 in
theorem sX6_drop (l : Launch) {G : GT} (hG : GI G) {v1 : Int} (h1 : Rg v1) {σ : Hp} (hs : RgS σ) {r0 : Int × Hp} (hf : fX6_drop σ v1 = some r0) : Cti l G yX6_drop wsX6_drop rmX6_drop [rf G 6 0, iv v1] σ r0.1 r0.2 := by
  unfold fX6_drop at hf
  refine Cti_start (lv := [(0, rf G 6 0), (1, iv v1)]) (ret := (some .int)) (by decide +kernel) rfl hG (Nat.le_of_ble_eq_true rfl) rfl (fun p e s m args below meth c hC hr hlk => ?_)
  refine V_iload_n (k := 1) (q := 1) hC 1 rfl dX6_drop_0 rfl ?_
  refine V_csi (st := []) (q := 4) hC (sX6_isRow l hG h1 hs) (va_cwS 1 hC.2.2.2.2.1 gX6_drop_X6_isRow rfl rfl rfl (by decide +kernel) ⟨Nat.le_of_ble_eq_true rfl, Nat.le_of_ble_eq_true rfl⟩) rfl rfl (Nat.le_of_ble_eq_true rfl) dX6_drop_1 rfl ⟨Nat.zero_le _, Nat.zero_le _⟩ (fun hr1 _ => ?_)
  refine V_if_ne (tgt := 10) (q := 7) hC hr1 dX6_drop_4 (by decide) rfl (fun c2 => ?_) (fun c2 => ?_)
  · replace hf := (if_neg c2).symm.trans hf
    refine V_aload_n (k := 0) (q := 11) hC 0 rfl dX6_drop_10 rfl ?_
    refine V_getf (T := TX6) (k := 0) (q := 14) hC uX6_drop_6 rfl iD6 rfl (by decide) kX6_drop_f11 rfl dX6_drop_11 rfl ?_
    refine V_iload_n (k := 1) (q := 15) hC 1 rfl dX6_drop_14 rfl ?_
    obtain ⟨g3, hf⟩ := gd_some hf
    refine V_aald20 (q := 16) hC g3 h1 dX6_drop_15 rfl ?_
    have hj4 : v1.toNat < 8 := by omega
    refine V_getf (T := TX3) (k := 1) (q := 19) hC uX6_drop_3 rfl (iM3 hj4) rfl (by decide) kX6_drop_f85 rfl dX6_drop_16 rfl ?_
    refine V_if_ne (tgt := 28) (q := 22) hC (hs _ _ _) dX6_drop_19 (by decide) rfl (fun c5 => ?_) (fun c5 => ?_)
    · replace hf := (if_neg c5).symm.trans hf
      refine V_aload_n (k := 0) (q := 29) hC 0 rfl dX6_drop_28 rfl ?_
      refine V_getf (T := TX6) (k := 0) (q := 32) hC uX6_drop_6 rfl iD6 rfl (by decide) kX6_drop_f11 rfl dX6_drop_29 rfl ?_
      refine V_iload_n (k := 1) (q := 33) hC 1 rfl dX6_drop_32 rfl ?_
      obtain ⟨g6, hf⟩ := gd_some hf
      refine V_aald20 (q := 34) hC g6 h1 dX6_drop_33 rfl ?_
      have hj7 : v1.toNat < 8 := by omega
      refine V_iconst (q := 35) hC dX6_drop_34 rfl ?_
      obtain ⟨σ8, e9, hf⟩ := sq_ex hf
      have hs10 : RgS σ8 := by rw [e9]; exact RgS_hup hs (Rg_c rfl)
      refine V_putf (T := TX3) (k := 1) (ty := .boolean) (q := 38) hC uX6_drop_3 rfl tyX3 tyX3_ok nmX3 (iM3 hj7) rfl (pf_3_1 _ _ _ _ rfl) (by decide) kX6_drop_f85 rfl (by decide +kernel) (nz_b (Or.inl rfl)) (fz_b (Or.inl rfl)) (Nat.le_of_ble_eq_true rfl) e9 dX6_drop_35 rfl ?_
      refine V_aload_n (k := 0) (q := 39) hC 0 rfl dX6_drop_38 rfl ?_
      refine V_aload_n (k := 0) (q := 40) hC 0 rfl dX6_drop_39 rfl ?_
      refine V_getf (T := TX6) (k := 0) (q := 43) hC uX6_drop_6 rfl iD6 rfl (by decide) kX6_drop_f11 rfl dX6_drop_40 rfl ?_
      refine V_iload_n (k := 1) (q := 44) hC 1 rfl dX6_drop_43 rfl ?_
      obtain ⟨g11, hf⟩ := gd_some hf
      refine V_aald20 (q := 45) hC g11 h1 dX6_drop_44 rfl ?_
      have hj12 : v1.toNat < 8 := by omega
      refine V_getf (T := TX3) (k := 3) (q := 48) hC uX6_drop_3 rfl (iM3 hj12) rfl (by decide) kX6_drop_f103 rfl dX6_drop_45 rfl ?_
      obtain ⟨r13, σ14, hc15, hf⟩ := cl_some hf
      refine V_cvi (st := []) (q := 51) (x0 := r13) (σ0 := σ14) hC (sX6_foundNothing l hG (hs10 _ _ _) hs10 hc15) (cwV 1 hC.2.2.2.2.1 gX6_drop_X6_foundNothing rfl rfl rfl (by decide +kernel) ⟨Nat.le_of_ble_eq_true rfl, Nat.le_of_ble_eq_true rfl⟩) ⟨_, rfl, rfl⟩ iD6 (fun _ => ⟨_, rfl⟩) rfl rfl (Nat.le_of_ble_eq_true rfl) dX6_drop_48 rfl ⟨Nat.zero_le _, Nat.zero_le _⟩ (fun hr16 hs17 => ?_)
      exact V_iret hC hr hlk (re_1 hf) (re_2 hf) hr16 hs17 dX6_drop_51
    · replace hf := (if_pos c5).symm.trans hf
      refine V_aload_n (k := 0) (q := 23) hC 0 rfl dX6_drop_22 rfl ?_
      refine V_iconst (q := 24) hC dX6_drop_23 rfl ?_
      obtain ⟨r18, σ19, hc20, hf⟩ := cl_some hf
      refine V_cvi (st := []) (q := 27) (x0 := r18) (σ0 := σ19) hC (sX6_found l hG (Rg_c rfl) hs hc20) (cwV 1 hC.2.2.2.2.1 gX6_drop_X6_found rfl rfl rfl (by decide +kernel) ⟨Nat.le_of_ble_eq_true rfl, Nat.le_of_ble_eq_true rfl⟩) ⟨_, rfl, rfl⟩ iD6 (fun _ => ⟨_, rfl⟩) rfl rfl (Nat.le_of_ble_eq_true rfl) dX6_drop_24 rfl ⟨Nat.zero_le _, Nat.zero_le _⟩ (fun hr21 hs22 => ?_)
      exact V_iret hC hr hlk (re_1 hf) (re_2 hf) hr21 hs22 dX6_drop_27
  · replace hf := (if_pos c2).symm.trans hf
    refine V_ldc (q := 9) (n := (-1000001)) hC (by decide) kX6_drop_c62 dX6_drop_7 rfl ?_
    exact V_iret hC hr hlk (re_1 hf) (re_2 hf) (Rg_c rfl) hs dX6_drop_9
/-! X6_feed -/
theorem kX6_feed_c62 : Cond.constant RX6 62 (-1000001) ∈ wsX6_feed := by decide +kernel
theorem kX6_feed_f18 : Cond.fieldLink RX6 18 "BarkNames" "tape" "LBarkNames$Tape;" ∈ wsX6_feed := by decide +kernel
theorem uX6_feed_6 : ∀ w ∈ u_ws RX6 TX6 10, w ∈ wsX6_feed := by decide +kernel
theorem kX6_feed_c112 : Cond.constant RX6 112 (-1000003) ∈ wsX6_feed := by decide +kernel
theorem kX6_feed_f109 : Cond.fieldLink RX6 109 "BarkNames$Tape" "length" "I" ∈ wsX6_feed := by decide +kernel
theorem uX6_feed_4 : ∀ w ∈ u_ws RX4 TX4 5, w ∈ wsX6_feed := by decide +kernel
abbrev rmX6_feed : Room := { frames := 1, cells := 0, slots := 0, locals := 21 }
set_option maxHeartbeats 4000000 in
set_option maxRecDepth 100000 in
theorem sX6_feed (l : Launch) {G : GT} (hG : GI G) {v1 : Int} (h1 : Rg v1) {σ : Hp} (hs : RgS σ) {r0 : Int × Hp} (hf : fX6_feed σ v1 = some r0) : Cti l G yX6_feed wsX6_feed rmX6_feed [rf G 6 0, iv v1] σ r0.1 r0.2 := by
  unfold fX6_feed at hf
  refine Cti_start (lv := [(0, rf G 6 0), (1, iv v1)]) (ret := (some .int)) (by decide +kernel) rfl hG (Nat.le_of_ble_eq_true rfl) rfl (fun p e s m args below meth c hC hr hlk => ?_)
  refine V_iload_n (k := 1) (q := 1) hC 1 rfl dX6_feed_0 rfl ?_
  refine V_if_lt (tgt := 11) (q := 4) hC h1 dX6_feed_1 (by decide) rfl (fun c1 => ?_) (fun c1 => ?_)
  · replace hf := (if_pos c1).symm.trans hf
    refine V_ldc (q := 13) (n := (-1000001)) hC (by decide) kX6_feed_c62 dX6_feed_11 rfl ?_
    exact V_iret hC hr hlk (re_1 hf) (re_2 hf) (Rg_c rfl) hs dX6_feed_13
  · replace hf := (if_neg c1).symm.trans hf
    refine V_iload_n (k := 1) (q := 5) hC 1 rfl dX6_feed_4 rfl ?_
    refine V_sipush (q := 8) hC (by decide) dX6_feed_5 rfl ?_
    refine V_icmp_le (tgt := 14) (q := 11) hC h1 (Rg_c rfl) dX6_feed_8 (by decide) rfl (fun c2 => ?_) (fun c2 => ?_)
    · replace hf := (if_pos c2).symm.trans hf
      refine V_aload_n (k := 0) (q := 15) hC 0 rfl dX6_feed_14 rfl ?_
      refine V_getf (T := TX6) (k := 1) (q := 18) hC uX6_feed_6 rfl iD6 rfl (by decide) kX6_feed_f18 rfl dX6_feed_15 rfl ?_
      refine V_iload_n (k := 1) (q := 19) hC 1 rfl dX6_feed_18 rfl ?_
      obtain ⟨r3, σ4, hc5, hf⟩ := cl_some hf
      refine V_cvi (st := []) (q := 22) (x0 := r3) (σ0 := σ4) hC (sX4_takes l hG h1 hs hc5) (cwV 1 hC.2.2.2.2.1 gX6_feed_X4_takes rfl rfl rfl (by decide +kernel) ⟨Nat.le_of_ble_eq_true rfl, Nat.le_of_ble_eq_true rfl⟩) ⟨_, rfl, rfl⟩ iD4 (fun _ => ⟨_, rfl⟩) rfl rfl (Nat.le_of_ble_eq_true rfl) dX6_feed_19 rfl ⟨Nat.zero_le _, Nat.zero_le _⟩ (fun hr6 hs7 => ?_)
      refine V_if_eq (tgt := 35) (q := 25) hC hr6 dX6_feed_22 (by decide) rfl (fun c8 => ?_) (fun c8 => ?_)
      · replace hf := (if_pos c8).symm.trans hf
        refine V_ldc (q := 37) (n := (-1000003)) hC (by decide) kX6_feed_c112 dX6_feed_35 rfl ?_
        exact V_iret hC hr hlk (re_1 hf) (re_2 hf) (Rg_c rfl) hs7 dX6_feed_37
      · replace hf := (if_neg c8).symm.trans hf
        refine V_aload_n (k := 0) (q := 26) hC 0 rfl dX6_feed_25 rfl ?_
        refine V_getf (T := TX6) (k := 1) (q := 29) hC uX6_feed_6 rfl iD6 rfl (by decide) kX6_feed_f18 rfl dX6_feed_26 rfl ?_
        refine V_getf (T := TX4) (k := 1) (q := 32) hC uX6_feed_4 rfl iD4 rfl (by decide) kX6_feed_f109 rfl dX6_feed_29 rfl ?_
        refine V_goto (tgt := 37) hC dX6_feed_32 (by decide) ?_
        exact V_iret hC hr hlk (re_1 hf) (re_2 hf) (hs7 _ _ _) hs7 dX6_feed_37
    · replace hf := (if_neg c2).symm.trans hf
      refine V_ldc (q := 13) (n := (-1000001)) hC (by decide) kX6_feed_c62 dX6_feed_11 rfl ?_
      exact V_iret hC hr hlk (re_1 hf) (re_2 hf) (Rg_c rfl) hs dX6_feed_13
/-! X6_wood -/
theorem kX6_wood_f18 : Cond.fieldLink RX6 18 "BarkNames" "tape" "LBarkNames$Tape;" ∈ wsX6_wood := by decide +kernel
theorem uX6_wood_6 : ∀ w ∈ u_ws RX6 TX6 10, w ∈ wsX6_wood := by decide +kernel
theorem kX6_wood_f29 : Cond.fieldLink RX6 29 "BarkNames" "tried" "LBarkNames$Wood;" ∈ wsX6_wood := by decide +kernel
theorem kX6_wood_f109 : Cond.fieldLink RX6 109 "BarkNames$Tape" "length" "I" ∈ wsX6_wood := by decide +kernel
theorem uX6_wood_4 : ∀ w ∈ u_ws RX4 TX4 5, w ∈ wsX6_wood := by decide +kernel
theorem kX6_wood_f25 : Cond.fieldLink RX6 25 "BarkNames" "now" "LBarkNames$Wood;" ∈ wsX6_wood := by decide +kernel
theorem kX6_wood_f39 : Cond.fieldLink RX6 39 "BarkNames" "past" "LBarkNames$Past;" ∈ wsX6_wood := by decide +kernel
theorem kX6_wood_f134 : Cond.fieldLink RX6 134 "BarkNames$Wood" "cutCount" "I" ∈ wsX6_wood := by decide +kernel
theorem uX6_wood_5 : ∀ w ∈ u_ws RX5 TX5 12, w ∈ wsX6_wood := by decide +kernel
theorem kX6_wood_f117 : Cond.fieldLink RX6 117 "BarkNames$Tape" "fault" "I" ∈ wsX6_wood := by decide +kernel
theorem kX6_wood_f120 : Cond.fieldLink RX6 120 "BarkNames" "latestFault" "I" ∈ wsX6_wood := by decide +kernel
theorem kX6_wood_c123 : Cond.constant RX6 123 (-1000100) ∈ wsX6_wood := by decide +kernel
theorem kX6_wood_f124 : Cond.fieldLink RX6 124 "BarkNames$Tape" "faultPlace" "I" ∈ wsX6_wood := by decide +kernel
abbrev rmX6_wood : Room := { frames := 4, cells := 0, slots := 0, locals := 95 }
set_option maxHeartbeats 4000000 in
set_option maxRecDepth 100000 in
theorem sX6_wood (l : Launch) {G : GT} (hG : GI G) {σ : Hp} (hs : RgS σ) {r0 : Int × Hp} (hf : fX6_wood σ = some r0) : Cti l G yX6_wood wsX6_wood rmX6_wood [rf G 6 0] σ r0.1 r0.2 := by
  unfold fX6_wood at hf
  refine Cti_start (lv := [(0, rf G 6 0)]) (ret := (some .int)) (by decide +kernel) rfl hG (Nat.le_of_ble_eq_true rfl) rfl (fun p e s m args below meth c hC hr hlk => ?_)
  refine V_aload_n (k := 0) (q := 1) hC 0 rfl dX6_wood_0 rfl ?_
  refine V_getf (T := TX6) (k := 1) (q := 4) hC uX6_wood_6 rfl iD6 rfl (by decide) kX6_wood_f18 rfl dX6_wood_1 rfl ?_
  refine V_aload_n (k := 0) (q := 5) hC 0 rfl dX6_wood_4 rfl ?_
  refine V_getf (T := TX6) (k := 3) (q := 8) hC uX6_wood_6 rfl iD6 rfl (by decide) kX6_wood_f29 rfl dX6_wood_5 rfl ?_
  obtain ⟨r1, σ2, hc3, hf⟩ := cl_some hf
  refine V_cvi (st := []) (q := 11) (x0 := r1) (σ0 := σ2) hC (sX4_tells l hG (by decide) hs hc3) (cwV 1 hC.2.2.2.2.1 gX6_wood_X4_tells rfl rfl rfl (by decide +kernel) ⟨Nat.le_of_ble_eq_true rfl, Nat.le_of_ble_eq_true rfl⟩) ⟨_, rfl, rfl⟩ iD4 (fun _ => ⟨_, rfl⟩) rfl rfl (Nat.le_of_ble_eq_true rfl) dX6_wood_8 rfl ⟨Nat.zero_le _, Nat.zero_le _⟩ (fun hr4 hs5 => ?_)
  refine V_istore_n (k := 1) (i := 1) (lv' := [(0, rf G 6 0), (1, iv r1)]) (q := 12) hC [1, 0] rfl (by decide) rfl dX6_wood_11 rfl ?_
  refine V_aload_n (k := 0) (q := 13) hC 0 rfl dX6_wood_12 rfl ?_
  refine V_getf (T := TX6) (k := 1) (q := 16) hC uX6_wood_6 rfl iD6 rfl (by decide) kX6_wood_f18 rfl dX6_wood_13 rfl ?_
  refine V_iconst (q := 17) hC dX6_wood_16 rfl ?_
  obtain ⟨σ6, e7, hf⟩ := sq_ex hf
  have hs8 : RgS σ6 := by rw [e7]; exact RgS_hup hs5 (Rg_c rfl)
  refine V_putf (T := TX4) (k := 1) (ty := .int) (q := 20) hC uX6_wood_4 rfl tyX4 tyX4_ok nmX4 iD4 rfl (pf_4_1 _ _ _ _ rfl) (by decide) kX6_wood_f109 rfl (by decide +kernel) rfl rfl (Nat.le_of_ble_eq_true rfl) e7 dX6_wood_17 rfl ?_
  refine V_iload_n (k := 1) (q := 21) hC 1 rfl dX6_wood_20 rfl ?_
  refine V_if_ne (tgt := 46) (q := 24) hC hr4 dX6_wood_21 (by decide) rfl (fun c9 => ?_) (fun c9 => ?_)
  · replace hf := (if_neg c9).symm.trans hf
    refine V_aload_n (k := 0) (q := 47) hC 0 rfl dX6_wood_46 rfl ?_
    refine V_getf (T := TX6) (k := 2) (q := 50) hC uX6_wood_6 rfl iD6 rfl (by decide) kX6_wood_f25 rfl dX6_wood_47 rfl ?_
    refine V_aload_n (k := 0) (q := 51) hC 0 rfl dX6_wood_50 rfl ?_
    refine V_getf (T := TX6) (k := 3) (q := 54) hC uX6_wood_6 rfl iD6 rfl (by decide) kX6_wood_f29 rfl dX6_wood_51 rfl ?_
    obtain ⟨r10, σ11, hc12, hf⟩ := cl_some hf
    refine V_cvv (st := []) (q := 57) (σ0 := σ11) hC (sX5_become l hG (by decide) (by decide) hs8 hc12) (cwV 1 hC.2.2.2.2.1 gX6_wood_X5_become rfl rfl rfl (by decide +kernel) ⟨Nat.le_of_ble_eq_true rfl, Nat.le_of_ble_eq_true rfl⟩) ⟨_, rfl, rfl⟩ (iM5 (by decide)) (fun _ => ⟨_, rfl⟩) rfl rfl (Nat.le_of_ble_eq_true rfl) dX6_wood_54 rfl ⟨Nat.zero_le _, Nat.zero_le _⟩ (fun hs14 => ?_)
    refine V_aload_n (k := 0) (q := 58) hC 0 rfl dX6_wood_57 rfl ?_
    refine V_getf (T := TX6) (k := 5) (q := 61) hC uX6_wood_6 rfl iD6 rfl (by decide) kX6_wood_f39 rfl dX6_wood_58 rfl ?_
    obtain ⟨r15, σ16, hc17, hf⟩ := cl_some hf
    refine V_cvv (st := []) (q := 64) (σ0 := σ16) hC (sX1_forget l hG  hs14 hc17) (cwV 0 hC.2.2.2.2.1 gX6_wood_X1_forget rfl rfl rfl (by decide +kernel) ⟨Nat.le_of_ble_eq_true rfl, Nat.le_of_ble_eq_true rfl⟩) ⟨_, rfl, rfl⟩ iD1 (fun _ => ⟨_, rfl⟩) rfl rfl (Nat.le_of_ble_eq_true rfl) dX6_wood_61 rfl ⟨Nat.zero_le _, Nat.zero_le _⟩ (fun hs19 => ?_)
    refine V_aload_n (k := 0) (q := 65) hC 0 rfl dX6_wood_64 rfl ?_
    refine V_getf (T := TX6) (k := 2) (q := 68) hC uX6_wood_6 rfl iD6 rfl (by decide) kX6_wood_f25 rfl dX6_wood_65 rfl ?_
    refine V_getf (T := TX5) (k := 11) (q := 71) hC uX6_wood_5 rfl (iM5 (by decide)) rfl (by decide) kX6_wood_f134 rfl dX6_wood_68 rfl ?_
    exact V_iret hC hr hlk (re_1 hf) (re_2 hf) (hs19 _ _ _) hs19 dX6_wood_71
  · replace hf := (if_pos c9).symm.trans hf
    refine V_aload_n (k := 0) (q := 25) hC 0 rfl dX6_wood_24 rfl ?_
    refine V_aload_n (k := 0) (q := 26) hC 0 rfl dX6_wood_25 rfl ?_
    refine V_getf (T := TX6) (k := 1) (q := 29) hC uX6_wood_6 rfl iD6 rfl (by decide) kX6_wood_f18 rfl dX6_wood_26 rfl ?_
    refine V_getf (T := TX4) (k := 2) (q := 32) hC uX6_wood_4 rfl iD4 rfl (by decide) kX6_wood_f117 rfl dX6_wood_29 rfl ?_
    obtain ⟨σ20, e21, hf⟩ := sq_ex hf
    have hs22 : RgS σ20 := by rw [e21]; exact RgS_hup hs8 (hs8 _ _ _)
    refine V_putf (T := TX6) (k := 8) (ty := .int) (q := 35) hC uX6_wood_6 rfl tyX6 tyX6_ok nmX6 iD6 rfl (pf_6_8 _ _ _ _ rfl) (by decide) kX6_wood_f120 rfl (by decide +kernel) rfl rfl (Nat.le_of_ble_eq_true rfl) e21 dX6_wood_32 rfl ?_
    refine V_ldc (q := 37) (n := (-1000100)) hC (by decide) kX6_wood_c123 dX6_wood_35 rfl ?_
    refine V_aload_n (k := 0) (q := 38) hC 0 rfl dX6_wood_37 rfl ?_
    refine V_getf (T := TX6) (k := 1) (q := 41) hC uX6_wood_6 rfl iD6 rfl (by decide) kX6_wood_f18 rfl dX6_wood_38 rfl ?_
    refine V_getf (T := TX4) (k := 3) (q := 44) hC uX6_wood_4 rfl iD4 rfl (by decide) kX6_wood_f124 rfl dX6_wood_41 rfl ?_
    refine V_isub (q := 45) hC dX6_wood_44 rfl ?_
    exact V_iret hC hr hlk (re_1 hf) (re_2 hf) (Rg_wr _) hs22 dX6_wood_45
/-! X6_fault -/
theorem kX6_fault_f120 : Cond.fieldLink RX6 120 "BarkNames" "latestFault" "I" ∈ wsX6_fault := by decide +kernel
theorem uX6_fault_6 : ∀ w ∈ u_ws RX6 TX6 10, w ∈ wsX6_fault := by decide +kernel
abbrev rmX6_fault : Room := { frames := 0, cells := 0, slots := 0, locals := 0 }
set_option maxHeartbeats 4000000 in
set_option maxRecDepth 100000 in
theorem sX6_fault (l : Launch) {G : GT} (hG : GI G) {σ : Hp} (hs : RgS σ) : Cti l G yX6_fault wsX6_fault rmX6_fault [rf G 6 0] σ (fX6_fault σ) σ := by
  obtain ⟨x0, hf⟩ : ∃ x, fX6_fault σ = x := ⟨_, rfl⟩
  rw [hf]
  unfold fX6_fault at hf
  refine Cti_start (lv := [(0, rf G 6 0)]) (ret := (some .int)) (by decide +kernel) rfl hG (Nat.le_of_ble_eq_true rfl) rfl (fun p e s m args below meth c hC hr hlk => ?_)
  refine V_aload_n (k := 0) (q := 1) hC 0 rfl dX6_fault_0 rfl ?_
  refine V_getf (T := TX6) (k := 8) (q := 4) hC uX6_fault_6 rfl iD6 rfl (by decide) kX6_fault_f120 rfl dX6_fault_1 rfl ?_
  exact V_iret hC hr hlk hf rfl (hs _ _ _) hs dX6_fault_4
/-! X6_years -/
theorem kX6_years_f25 : Cond.fieldLink RX6 25 "BarkNames" "now" "LBarkNames$Wood;" ∈ wsX6_years := by decide +kernel
theorem uX6_years_6 : ∀ w ∈ u_ws RX6 TX6 10, w ∈ wsX6_years := by decide +kernel
theorem kX6_years_f137 : Cond.fieldLink RX6 137 "BarkNames$Wood" "told" "Z" ∈ wsX6_years := by decide +kernel
theorem uX6_years_5 : ∀ w ∈ u_ws RX5 TX5 12, w ∈ wsX6_years := by decide +kernel
theorem kX6_years_c62 : Cond.constant RX6 62 (-1000001) ∈ wsX6_years := by decide +kernel
theorem kX6_years_f141 : Cond.fieldLink RX6 141 "BarkNames$Wood" "year" "I" ∈ wsX6_years := by decide +kernel
theorem kX6_years_c112 : Cond.constant RX6 112 (-1000003) ∈ wsX6_years := by decide +kernel
theorem kX6_years_c140 : Cond.constant RX6 140 (-1000002) ∈ wsX6_years := by decide +kernel
theorem kX6_years_f39 : Cond.fieldLink RX6 39 "BarkNames" "past" "LBarkNames$Past;" ∈ wsX6_years := by decide +kernel
abbrev rmX6_years : Room := { frames := 3, cells := 0, slots := 0, locals := 68 }
set_option maxHeartbeats 4000000 in
set_option maxRecDepth 100000 in
theorem tlX6_years_47 {p : Program} {l : Launch} {e : Env} {s : State} {m : MethodId} {args : Array Value} {below : List Frame} {meth : Method} {c : Code} {G : GT} (hG : GI G) (hC : CX p s m args c cX6_years 3 RX6 wsX6_years G (AA G)) (hr : meth.sig.returnType = (some .int)) (hlk : meth.locks = false) {r0 : Int × Hp} : ∀ n : Nat, (∀ {σ : Hp} (hs : RgS σ) {v1 : Int} {v2 : Int} (h1 : Rg v1) (h2 : Rg v2) (hf : lX6_years_47 n σ v1 v2 = some r0), VV p l e (headSpec wsX6_years rmX6_years).room s m args below meth c (MQ below (QI G r0.1 r0.2) args s 0 0 (AA G)) G (AA G) 0 0 3 σ 47 [(0, rf G 6 0), (1, iv v1), (2, iv v2)] []) := by
  intro n
  induction n with
  | zero =>
    exact by intro σ hs v1 v2 h1 h2 hf; exact absurd (show (none : Option (Int × Hp)) = some r0 from hf) (fun z => by cases z)
  | succ n ih =>
    intro σ hs v1 v2 h1 h2 hf
    replace hf := (lX6_years_47_e0 n σ v1 v2).symm.trans hf
    refine V_iload_n (k := 2) (q := 48) hC 2 rfl dX6_years_47 rfl ?_
    refine V_iload_n (k := 1) (q := 49) hC 1 rfl dX6_years_48 rfl ?_
    refine V_icmp_ge (tgt := 76) (q := 52) hC h2 h1 dX6_years_49 (by decide) rfl (fun c5 => ?_) (fun c5 => ?_)
    · replace hf := (if_pos c5).symm.trans hf
      refine V_aload_n (k := 0) (q := 77) hC 0 rfl dX6_years_76 rfl ?_
      refine V_getf (T := TX6) (k := 2) (q := 80) hC uX6_years_6 rfl iD6 rfl (by decide) kX6_years_f25 rfl dX6_years_77 rfl ?_
      obtain ⟨r6, σ7, hc8, hf⟩ := cl_some hf
      refine V_cvi (st := []) (q := 83) (x0 := r6) (σ0 := σ7) hC (sX5_readable l hG (by decide) hs hc8) (cwV 0 hC.2.2.2.2.1 gX6_years_X5_readable rfl rfl rfl (by decide +kernel) ⟨Nat.le_of_ble_eq_true rfl, Nat.le_of_ble_eq_true rfl⟩) ⟨_, rfl, rfl⟩ (iM5 (by decide)) (fun _ => ⟨_, rfl⟩) rfl rfl (Nat.le_of_ble_eq_true rfl) dX6_years_80 rfl ⟨Nat.zero_le _, Nat.zero_le _⟩ (fun hr9 hs10 => ?_)
      refine V_csi (st := []) (q := 86) hC (sJ6_bitCount_0f7a4 l hG hr9 hs10) (va_cwS 1 hC.2.2.2.2.1 gX6_years_J6_bitCount_0f7a4 rfl rfl rfl (by decide +kernel) ⟨Nat.le_of_ble_eq_true rfl, Nat.le_of_ble_eq_true rfl⟩) rfl rfl (Nat.le_of_ble_eq_true rfl) dX6_years_83 rfl ⟨Nat.zero_le _, Nat.zero_le _⟩ (fun hr11 _ => ?_)
      exact V_iret hC hr hlk (re_1 hf) (re_2 hf) hr11 hs10 dX6_years_86
    · replace hf := (if_neg c5).symm.trans hf
      refine V_aload_n (k := 0) (q := 53) hC 0 rfl dX6_years_52 rfl ?_
      refine V_getf (T := TX6) (k := 5) (q := 56) hC uX6_years_6 rfl iD6 rfl (by decide) kX6_years_f39 rfl dX6_years_53 rfl ?_
      refine V_aload_n (k := 0) (q := 57) hC 0 rfl dX6_years_56 rfl ?_
      refine V_getf (T := TX6) (k := 2) (q := 60) hC uX6_years_6 rfl iD6 rfl (by decide) kX6_years_f25 rfl dX6_years_57 rfl ?_
      obtain ⟨r12, σ13, hc14, hf⟩ := cl_some hf
      refine V_cvv (st := []) (q := 63) (σ0 := σ13) hC (sX1_keep l hG (by decide) hs hc14) (cwV 1 hC.2.2.2.2.1 gX6_years_X1_keep rfl rfl rfl (by decide +kernel) ⟨Nat.le_of_ble_eq_true rfl, Nat.le_of_ble_eq_true rfl⟩) ⟨_, rfl, rfl⟩ iD1 (fun _ => ⟨_, rfl⟩) rfl rfl (Nat.le_of_ble_eq_true rfl) dX6_years_60 rfl ⟨Nat.zero_le _, Nat.zero_le _⟩ (fun hs16 => ?_)
      refine V_aload_n (k := 0) (q := 64) hC 0 rfl dX6_years_63 rfl ?_
      refine V_getf (T := TX6) (k := 2) (q := 67) hC uX6_years_6 rfl iD6 rfl (by decide) kX6_years_f25 rfl dX6_years_64 rfl ?_
      obtain ⟨r17, σ18, hc19, hf⟩ := cl_some hf
      refine V_cvv (st := []) (q := 70) (σ0 := σ18) hC (sX5_passYear l hG (by decide) hs16 hc19) (cwV 0 hC.2.2.2.2.1 gX6_years_X5_passYear rfl rfl rfl (by decide +kernel) ⟨Nat.le_of_ble_eq_true rfl, Nat.le_of_ble_eq_true rfl⟩) ⟨_, rfl, rfl⟩ (iM5 (by decide)) (fun _ => ⟨_, rfl⟩) rfl rfl (Nat.le_of_ble_eq_true rfl) dX6_years_67 rfl ⟨Nat.zero_le _, Nat.zero_le _⟩ (fun hs21 => ?_)
      refine V_iinc (i := 2) (lv' := [(0, rf G 6 0), (1, iv v1), (2, iv (wr (v2 + 1)))]) (q := 73) hC 2 rfl [1, 2, 0] (by decide) rfl dX6_years_70 rfl ?_
      refine V_goto (tgt := 47) hC dX6_years_73 (by decide) ?_
      refine V_lsub [0, 1, 2] rfl ?_
      exact ih hs21 h1 (Rg_wr _) hf
set_option maxHeartbeats 4000000 in
set_option maxRecDepth 100000 in
theorem sX6_years (l : Launch) {G : GT} (hG : GI G) {v1 : Int} (h1 : Rg v1) {σ : Hp} (hs : RgS σ) {r0 : Int × Hp} (hf : fX6_years σ v1 = some r0) : Cti l G yX6_years wsX6_years rmX6_years [rf G 6 0, iv v1] σ r0.1 r0.2 := by
  unfold fX6_years at hf
  refine Cti_start (lv := [(0, rf G 6 0), (1, iv v1)]) (ret := (some .int)) (by decide +kernel) rfl hG (Nat.le_of_ble_eq_true rfl) rfl (fun p e s m args below meth c hC hr hlk => ?_)
  refine V_aload_n (k := 0) (q := 1) hC 0 rfl dX6_years_0 rfl ?_
  refine V_getf (T := TX6) (k := 2) (q := 4) hC uX6_years_6 rfl iD6 rfl (by decide) kX6_years_f25 rfl dX6_years_1 rfl ?_
  refine V_getf (T := TX5) (k := 7) (q := 7) hC uX6_years_5 rfl (iM5 (by decide)) rfl (by decide) kX6_years_f137 rfl dX6_years_4 rfl ?_
  refine V_if_ne (tgt := 13) (q := 10) hC (hs _ _ _) dX6_years_7 (by decide) rfl (fun c1 => ?_) (fun c1 => ?_)
  · replace hf := (if_neg c1).symm.trans hf
    refine V_iload_n (k := 1) (q := 14) hC 1 rfl dX6_years_13 rfl ?_
    refine V_iconst (q := 15) hC dX6_years_14 rfl ?_
    refine V_icmp_lt (tgt := 24) (q := 18) hC h1 (Rg_c rfl) dX6_years_15 (by decide) rfl (fun c2 => ?_) (fun c2 => ?_)
    · replace hf := (if_pos c2).symm.trans hf
      refine V_ldc (q := 26) (n := (-1000001)) hC (by decide) kX6_years_c62 dX6_years_24 rfl ?_
      exact V_iret hC hr hlk (re_1 hf) (re_2 hf) (Rg_c rfl) hs dX6_years_26
    · replace hf := (if_neg c2).symm.trans hf
      refine V_iload_n (k := 1) (q := 19) hC 1 rfl dX6_years_18 rfl ?_
      refine V_bipush (q := 21) hC (by decide) dX6_years_19 rfl ?_
      refine V_icmp_le (tgt := 27) (q := 24) hC h1 (Rg_c rfl) dX6_years_21 (by decide) rfl (fun c3 => ?_) (fun c3 => ?_)
      · replace hf := (if_pos c3).symm.trans hf
        refine V_aload_n (k := 0) (q := 28) hC 0 rfl dX6_years_27 rfl ?_
        refine V_getf (T := TX6) (k := 2) (q := 31) hC uX6_years_6 rfl iD6 rfl (by decide) kX6_years_f25 rfl dX6_years_28 rfl ?_
        refine V_getf (T := TX5) (k := 9) (q := 34) hC uX6_years_5 rfl (iM5 (by decide)) rfl (by decide) kX6_years_f141 rfl dX6_years_31 rfl ?_
        refine V_iload_n (k := 1) (q := 35) hC 1 rfl dX6_years_34 rfl ?_
        refine V_iadd (q := 36) hC dX6_years_35 rfl ?_
        refine V_sipush (q := 39) hC (by decide) dX6_years_36 rfl ?_
        refine V_icmp_le (tgt := 45) (q := 42) hC (Rg_wr _) (Rg_c rfl) dX6_years_39 (by decide) rfl (fun c4 => ?_) (fun c4 => ?_)
        · replace hf := (if_pos c4).symm.trans hf
          refine V_iconst (q := 46) hC dX6_years_45 rfl ?_
          refine V_istore_n (k := 2) (i := 2) (lv' := [(0, rf G 6 0), (1, iv v1), (2, iv 0)]) (q := 47) hC [1, 2, 0] rfl (by decide) rfl dX6_years_46 rfl ?_
          refine V_lsub [0, 1, 2] rfl ?_
          exact (tlX6_years_47 hG hC hr hlk FU) hs h1 (Rg_c rfl) hf
        · replace hf := (if_neg c4).symm.trans hf
          refine V_ldc (q := 44) (n := (-1000003)) hC (by decide) kX6_years_c112 dX6_years_42 rfl ?_
          exact V_iret hC hr hlk (re_1 hf) (re_2 hf) (Rg_c rfl) hs dX6_years_44
      · replace hf := (if_neg c3).symm.trans hf
        refine V_ldc (q := 26) (n := (-1000001)) hC (by decide) kX6_years_c62 dX6_years_24 rfl ?_
        exact V_iret hC hr hlk (re_1 hf) (re_2 hf) (Rg_c rfl) hs dX6_years_26
  · replace hf := (if_pos c1).symm.trans hf
    refine V_ldc (q := 12) (n := (-1000002)) hC (by decide) kX6_years_c140 dX6_years_10 rfl ?_
    exact V_iret hC hr hlk (re_1 hf) (re_2 hf) (Rg_c rfl) hs dX6_years_12
/-! X6_isDepth -/
abbrev rmX6_isDepth : Room := { frames := 0, cells := 0, slots := 0, locals := 0 }
set_option maxHeartbeats 4000000 in
set_option maxRecDepth 100000 in
theorem sX6_isDepth (l : Launch) {G : GT} (hG : GI G) {v0 : Int} (h0 : Rg v0) {σ : Hp} (hs : RgS σ) : Cti l G yX6_isDepth wsX6_isDepth rmX6_isDepth [iv v0] σ (fX6_isDepth v0) σ := by
  obtain ⟨x0, hf⟩ : ∃ x, fX6_isDepth v0 = x := ⟨_, rfl⟩
  rw [hf]
  unfold fX6_isDepth at hf
  refine Cti_start (lv := [(0, iv v0)]) (ret := (some .boolean)) (by decide +kernel) rfl hG (Nat.le_of_ble_eq_true rfl) rfl (fun p e s m args below meth c hC hr hlk => ?_)
  refine V_iload_n (k := 0) (q := 1) hC 0 rfl dX6_isDepth_0 rfl ?_
  refine V_iconst (q := 2) hC dX6_isDepth_1 rfl ?_
  refine V_icmp_lt (tgt := 15) (q := 5) hC h0 (Rg_c rfl) dX6_isDepth_2 (by decide) rfl (fun c1 => ?_) (fun c1 => ?_)
  · replace hf := (if_pos c1).symm.trans hf
    refine V_iconst (q := 16) hC dX6_isDepth_15 rfl ?_
    exact V_zret hC hr hlk (Or.inl rfl) hf rfl hs dX6_isDepth_16
  · replace hf := (if_neg c1).symm.trans hf
    refine V_iload_n (k := 0) (q := 6) hC 0 rfl dX6_isDepth_5 rfl ?_
    refine V_bipush (q := 8) hC (by decide) dX6_isDepth_6 rfl ?_
    refine V_icmp_gt (tgt := 15) (q := 11) hC h0 (Rg_c rfl) dX6_isDepth_8 (by decide) rfl (fun c2 => ?_) (fun c2 => ?_)
    · replace hf := (if_pos c2).symm.trans hf
      refine V_iconst (q := 16) hC dX6_isDepth_15 rfl ?_
      exact V_zret hC hr hlk (Or.inl rfl) hf rfl hs dX6_isDepth_16
    · replace hf := (if_neg c2).symm.trans hf
      refine V_iconst (q := 12) hC dX6_isDepth_11 rfl ?_
      refine V_goto (tgt := 16) hC dX6_isDepth_12 (by decide) ?_
      exact V_zret hC hr hlk (Or.inr rfl) hf rfl hs dX6_isDepth_16
/-! X6_cut -/
theorem kX6_cut_f25 : Cond.fieldLink RX6 25 "BarkNames" "now" "LBarkNames$Wood;" ∈ wsX6_cut := by decide +kernel
theorem uX6_cut_6 : ∀ w ∈ u_ws RX6 TX6 10, w ∈ wsX6_cut := by decide +kernel
theorem kX6_cut_c62 : Cond.constant RX6 62 (-1000001) ∈ wsX6_cut := by decide +kernel
theorem kX6_cut_f134 : Cond.fieldLink RX6 134 "BarkNames$Wood" "cutCount" "I" ∈ wsX6_cut := by decide +kernel
theorem uX6_cut_5 : ∀ w ∈ u_ws RX5 TX5 12, w ∈ wsX6_cut := by decide +kernel
theorem kX6_cut_f39 : Cond.fieldLink RX6 39 "BarkNames" "past" "LBarkNames$Past;" ∈ wsX6_cut := by decide +kernel
theorem kX6_cut_c112 : Cond.constant RX6 112 (-1000003) ∈ wsX6_cut := by decide +kernel
theorem kX6_cut_c140 : Cond.constant RX6 140 (-1000002) ∈ wsX6_cut := by decide +kernel
abbrev rmX6_cut : Room := { frames := 3, cells := 0, slots := 0, locals := 68 }
set_option maxHeartbeats 4000000 in
set_option maxRecDepth 100000 in
theorem sX6_cut (l : Launch) {G : GT} (hG : GI G) {v1 : Int} {v2 : Int} {v3 : Int} {v4 : Int} (h1 : Rg v1) (h2 : Rg v2) (h3 : Rg v3) (h4 : Rg v4) {σ : Hp} (hs : RgS σ) {r0 : Int × Hp} (hf : fX6_cut σ v1 v2 v3 v4 = some r0) : Cti l G yX6_cut wsX6_cut rmX6_cut [rf G 6 0, iv v1, iv v2, iv v3, iv v4] σ r0.1 r0.2 := by
  unfold fX6_cut at hf
  refine Cti_start (lv := [(0, rf G 6 0), (1, iv v1), (2, iv v2), (3, iv v3), (4, iv v4)]) (ret := (some .int)) (by decide +kernel) rfl hG (Nat.le_of_ble_eq_true rfl) rfl (fun p e s m args below meth c hC hr hlk => ?_)
  refine V_aload_n (k := 0) (q := 1) hC 0 rfl dX6_cut_0 rfl ?_
  refine V_getf (T := TX6) (k := 2) (q := 4) hC uX6_cut_6 rfl iD6 rfl (by decide) kX6_cut_f25 rfl dX6_cut_1 rfl ?_
  refine V_iload_n (k := 1) (q := 5) hC 1 rfl dX6_cut_4 rfl ?_
  refine V_cvi (st := []) (q := 8) hC (sX5_hasTree l hG (by decide) h1 hs) (cwV 1 hC.2.2.2.2.1 gX6_cut_X5_hasTree rfl rfl rfl (by decide +kernel) ⟨Nat.le_of_ble_eq_true rfl, Nat.le_of_ble_eq_true rfl⟩) ⟨_, rfl, rfl⟩ (iM5 (by decide)) (fun _ => ⟨_, rfl⟩) rfl rfl (Nat.le_of_ble_eq_true rfl) dX6_cut_5 rfl ⟨Nat.zero_le _, Nat.zero_le _⟩ (fun hr1 _ => ?_)
  refine V_if_eq (tgt := 37) (q := 11) hC hr1 dX6_cut_8 (by decide) rfl (fun c2 => ?_) (fun c2 => ?_)
  · replace hf := (if_pos c2).symm.trans hf
    refine V_ldc (q := 39) (n := (-1000001)) hC (by decide) kX6_cut_c62 dX6_cut_37 rfl ?_
    exact V_iret hC hr hlk (re_1 hf) (re_2 hf) (Rg_c rfl) hs dX6_cut_39
  · replace hf := (if_neg c2).symm.trans hf
    refine V_iload_n (k := 2) (q := 12) hC 2 rfl dX6_cut_11 rfl ?_
    refine V_bipush (q := 14) hC (by decide) dX6_cut_12 rfl ?_
    refine V_csi (st := []) (q := 17) hC (sX6_isBelow l hG h2 (Rg_c rfl) hs) (va_cwS 2 hC.2.2.2.2.1 gX6_cut_X6_isBelow rfl rfl rfl (by decide +kernel) ⟨Nat.le_of_ble_eq_true rfl, Nat.le_of_ble_eq_true rfl⟩) rfl rfl (Nat.le_of_ble_eq_true rfl) dX6_cut_14 rfl ⟨Nat.zero_le _, Nat.zero_le _⟩ (fun hr3 _ => ?_)
    refine V_if_eq (tgt := 37) (q := 20) hC hr3 dX6_cut_17 (by decide) rfl (fun c4 => ?_) (fun c4 => ?_)
    · replace hf := (if_pos c4).symm.trans hf
      refine V_ldc (q := 39) (n := (-1000001)) hC (by decide) kX6_cut_c62 dX6_cut_37 rfl ?_
      exact V_iret hC hr hlk (re_1 hf) (re_2 hf) (Rg_c rfl) hs dX6_cut_39
    · replace hf := (if_neg c4).symm.trans hf
      refine V_iload_n (k := 3) (q := 21) hC 3 rfl dX6_cut_20 rfl ?_
      refine V_bipush (q := 23) hC (by decide) dX6_cut_21 rfl ?_
      refine V_csi (st := []) (q := 26) hC (sX6_isBelow l hG h3 (Rg_c rfl) hs) (va_cwS 2 hC.2.2.2.2.1 gX6_cut_X6_isBelow rfl rfl rfl (by decide +kernel) ⟨Nat.le_of_ble_eq_true rfl, Nat.le_of_ble_eq_true rfl⟩) rfl rfl (Nat.le_of_ble_eq_true rfl) dX6_cut_23 rfl ⟨Nat.zero_le _, Nat.zero_le _⟩ (fun hr5 _ => ?_)
      refine V_if_eq (tgt := 37) (q := 29) hC hr5 dX6_cut_26 (by decide) rfl (fun c6 => ?_) (fun c6 => ?_)
      · replace hf := (if_pos c6).symm.trans hf
        refine V_ldc (q := 39) (n := (-1000001)) hC (by decide) kX6_cut_c62 dX6_cut_37 rfl ?_
        exact V_iret hC hr hlk (re_1 hf) (re_2 hf) (Rg_c rfl) hs dX6_cut_39
      · replace hf := (if_neg c6).symm.trans hf
        refine V_iload (k := 4) (q := 31) hC 4 rfl dX6_cut_29 rfl ?_
        refine V_csi (st := []) (q := 34) hC (sX6_isDepth l hG h4 hs) (va_cwS 1 hC.2.2.2.2.1 gX6_cut_X6_isDepth rfl rfl rfl (by decide +kernel) ⟨Nat.le_of_ble_eq_true rfl, Nat.le_of_ble_eq_true rfl⟩) rfl rfl (Nat.le_of_ble_eq_true rfl) dX6_cut_31 rfl ⟨Nat.zero_le _, Nat.zero_le _⟩ (fun hr7 _ => ?_)
        refine V_if_ne (tgt := 40) (q := 37) hC hr7 dX6_cut_34 (by decide) rfl (fun c8 => ?_) (fun c8 => ?_)
        · replace hf := (if_neg c8).symm.trans hf
          refine V_aload_n (k := 0) (q := 41) hC 0 rfl dX6_cut_40 rfl ?_
          refine V_getf (T := TX6) (k := 2) (q := 44) hC uX6_cut_6 rfl iD6 rfl (by decide) kX6_cut_f25 rfl dX6_cut_41 rfl ?_
          refine V_iload_n (k := 1) (q := 45) hC 1 rfl dX6_cut_44 rfl ?_
          refine V_iload_n (k := 3) (q := 46) hC 3 rfl dX6_cut_45 rfl ?_
          obtain ⟨r9, σ10, hc11, hf⟩ := cl_some hf
          refine V_cvi (st := []) (q := 49) (x0 := r9) (σ0 := σ10) hC (sX5_hasCutAt l hG (by decide) h1 h3 hs hc11) (cwV 2 hC.2.2.2.2.1 gX6_cut_X5_hasCutAt rfl rfl rfl (by decide +kernel) ⟨Nat.le_of_ble_eq_true rfl, Nat.le_of_ble_eq_true rfl⟩) ⟨_, rfl, rfl⟩ (iM5 (by decide)) (fun _ => ⟨_, rfl⟩) rfl rfl (Nat.le_of_ble_eq_true rfl) dX6_cut_46 rfl ⟨Nat.zero_le _, Nat.zero_le _⟩ (fun hr12 hs13 => ?_)
          refine V_if_eq (tgt := 55) (q := 52) hC hr12 dX6_cut_49 (by decide) rfl (fun c14 => ?_) (fun c14 => ?_)
          · replace hf := (if_pos c14).symm.trans hf
            refine V_aload_n (k := 0) (q := 56) hC 0 rfl dX6_cut_55 rfl ?_
            refine V_getf (T := TX6) (k := 2) (q := 59) hC uX6_cut_6 rfl iD6 rfl (by decide) kX6_cut_f25 rfl dX6_cut_56 rfl ?_
            refine V_getf (T := TX5) (k := 11) (q := 62) hC uX6_cut_5 rfl (iM5 (by decide)) rfl (by decide) kX6_cut_f134 rfl dX6_cut_59 rfl ?_
            refine V_bipush (q := 64) hC (by decide) dX6_cut_62 rfl ?_
            refine V_icmp_lt (tgt := 70) (q := 67) hC (hs13 _ _ _) (Rg_c rfl) dX6_cut_64 (by decide) rfl (fun c15 => ?_) (fun c15 => ?_)
            · replace hf := (if_pos c15).symm.trans hf
              refine V_aload_n (k := 0) (q := 71) hC 0 rfl dX6_cut_70 rfl ?_
              refine V_getf (T := TX6) (k := 5) (q := 74) hC uX6_cut_6 rfl iD6 rfl (by decide) kX6_cut_f39 rfl dX6_cut_71 rfl ?_
              refine V_aload_n (k := 0) (q := 75) hC 0 rfl dX6_cut_74 rfl ?_
              refine V_getf (T := TX6) (k := 2) (q := 78) hC uX6_cut_6 rfl iD6 rfl (by decide) kX6_cut_f25 rfl dX6_cut_75 rfl ?_
              obtain ⟨r16, σ17, hc18, hf⟩ := cl_some hf
              refine V_cvv (st := []) (q := 81) (σ0 := σ17) hC (sX1_keep l hG (by decide) hs13 hc18) (cwV 1 hC.2.2.2.2.1 gX6_cut_X1_keep rfl rfl rfl (by decide +kernel) ⟨Nat.le_of_ble_eq_true rfl, Nat.le_of_ble_eq_true rfl⟩) ⟨_, rfl, rfl⟩ iD1 (fun _ => ⟨_, rfl⟩) rfl rfl (Nat.le_of_ble_eq_true rfl) dX6_cut_78 rfl ⟨Nat.zero_le _, Nat.zero_le _⟩ (fun hs20 => ?_)
              refine V_aload_n (k := 0) (q := 82) hC 0 rfl dX6_cut_81 rfl ?_
              refine V_getf (T := TX6) (k := 2) (q := 85) hC uX6_cut_6 rfl iD6 rfl (by decide) kX6_cut_f25 rfl dX6_cut_82 rfl ?_
              refine V_iload_n (k := 1) (q := 86) hC 1 rfl dX6_cut_85 rfl ?_
              refine V_iload_n (k := 2) (q := 87) hC 2 rfl dX6_cut_86 rfl ?_
              refine V_iload_n (k := 3) (q := 88) hC 3 rfl dX6_cut_87 rfl ?_
              refine V_iload (k := 4) (q := 90) hC 4 rfl dX6_cut_88 rfl ?_
              obtain ⟨r21, σ22, hc23, hf⟩ := cl_some hf
              refine V_cvv (st := []) (q := 93) (σ0 := σ22) hC (sX5_addCut l hG (by decide) h1 h2 h3 h4 hs20 hc23) (cwV 4 hC.2.2.2.2.1 gX6_cut_X5_addCut rfl rfl rfl (by decide +kernel) ⟨Nat.le_of_ble_eq_true rfl, Nat.le_of_ble_eq_true rfl⟩) ⟨_, rfl, rfl⟩ (iM5 (by decide)) (fun _ => ⟨_, rfl⟩) rfl rfl (Nat.le_of_ble_eq_true rfl) dX6_cut_90 rfl ⟨Nat.zero_le _, Nat.zero_le _⟩ (fun hs25 => ?_)
              refine V_aload_n (k := 0) (q := 94) hC 0 rfl dX6_cut_93 rfl ?_
              refine V_getf (T := TX6) (k := 2) (q := 97) hC uX6_cut_6 rfl iD6 rfl (by decide) kX6_cut_f25 rfl dX6_cut_94 rfl ?_
              refine V_getf (T := TX5) (k := 11) (q := 100) hC uX6_cut_5 rfl (iM5 (by decide)) rfl (by decide) kX6_cut_f134 rfl dX6_cut_97 rfl ?_
              refine V_iconst (q := 101) hC dX6_cut_100 rfl ?_
              refine V_isub (q := 102) hC dX6_cut_101 rfl ?_
              exact V_iret hC hr hlk (re_1 hf) (re_2 hf) (Rg_wr _) hs25 dX6_cut_102
            · replace hf := (if_neg c15).symm.trans hf
              refine V_ldc (q := 69) (n := (-1000003)) hC (by decide) kX6_cut_c112 dX6_cut_67 rfl ?_
              exact V_iret hC hr hlk (re_1 hf) (re_2 hf) (Rg_c rfl) hs13 dX6_cut_69
          · replace hf := (if_neg c14).symm.trans hf
            refine V_ldc (q := 54) (n := (-1000002)) hC (by decide) kX6_cut_c140 dX6_cut_52 rfl ?_
            exact V_iret hC hr hlk (re_1 hf) (re_2 hf) (Rg_c rfl) hs13 dX6_cut_54
        · replace hf := (if_pos c8).symm.trans hf
          refine V_ldc (q := 39) (n := (-1000001)) hC (by decide) kX6_cut_c62 dX6_cut_37 rfl ?_
          exact V_iret hC hr hlk (re_1 hf) (re_2 hf) (Rg_c rfl) hs dX6_cut_39
/-! X6_anew -/
theorem kX6_anew_f25 : Cond.fieldLink RX6 25 "BarkNames" "now" "LBarkNames$Wood;" ∈ wsX6_anew := by decide +kernel
theorem uX6_anew_6 : ∀ w ∈ u_ws RX6 TX6 10, w ∈ wsX6_anew := by decide +kernel
theorem kX6_anew_c62 : Cond.constant RX6 62 (-1000001) ∈ wsX6_anew := by decide +kernel
theorem kX6_anew_f178 : Cond.fieldLink RX6 178 "BarkNames$Wood" "depthOf" "[I" ∈ wsX6_anew := by decide +kernel
theorem uX6_anew_5 : ∀ w ∈ u_ws RX5 TX5 12, w ∈ wsX6_anew := by decide +kernel
theorem kX6_anew_f39 : Cond.fieldLink RX6 39 "BarkNames" "past" "LBarkNames$Past;" ∈ wsX6_anew := by decide +kernel
theorem kX6_anew_c140 : Cond.constant RX6 140 (-1000002) ∈ wsX6_anew := by decide +kernel
abbrev rmX6_anew : Room := { frames := 3, cells := 0, slots := 0, locals := 68 }
set_option maxHeartbeats 4000000 in
set_option maxRecDepth 100000 in
theorem sX6_anew (l : Launch) {G : GT} (hG : GI G) {v1 : Int} {v2 : Int} (h1 : Rg v1) (h2 : Rg v2) {σ : Hp} (hs : RgS σ) {r0 : Int × Hp} (hf : fX6_anew σ v1 v2 = some r0) : Cti l G yX6_anew wsX6_anew rmX6_anew [rf G 6 0, iv v1, iv v2] σ r0.1 r0.2 := by
  unfold fX6_anew at hf
  refine Cti_start (lv := [(0, rf G 6 0), (1, iv v1), (2, iv v2)]) (ret := (some .int)) (by decide +kernel) rfl hG (Nat.le_of_ble_eq_true rfl) rfl (fun p e s m args below meth c hC hr hlk => ?_)
  refine V_aload_n (k := 0) (q := 1) hC 0 rfl dX6_anew_0 rfl ?_
  refine V_getf (T := TX6) (k := 2) (q := 4) hC uX6_anew_6 rfl iD6 rfl (by decide) kX6_anew_f25 rfl dX6_anew_1 rfl ?_
  refine V_iload_n (k := 1) (q := 5) hC 1 rfl dX6_anew_4 rfl ?_
  refine V_cvi (st := []) (q := 8) hC (sX5_hasCut l hG (by decide) h1 hs) (cwV 1 hC.2.2.2.2.1 gX6_anew_X5_hasCut rfl rfl rfl (by decide +kernel) ⟨Nat.le_of_ble_eq_true rfl, Nat.le_of_ble_eq_true rfl⟩) ⟨_, rfl, rfl⟩ (iM5 (by decide)) (fun _ => ⟨_, rfl⟩) rfl rfl (Nat.le_of_ble_eq_true rfl) dX6_anew_5 rfl ⟨Nat.zero_le _, Nat.zero_le _⟩ (fun hr1 _ => ?_)
  refine V_if_eq (tgt := 18) (q := 11) hC hr1 dX6_anew_8 (by decide) rfl (fun c2 => ?_) (fun c2 => ?_)
  · replace hf := (if_pos c2).symm.trans hf
    refine V_ldc (q := 20) (n := (-1000001)) hC (by decide) kX6_anew_c62 dX6_anew_18 rfl ?_
    exact V_iret hC hr hlk (re_1 hf) (re_2 hf) (Rg_c rfl) hs dX6_anew_20
  · replace hf := (if_neg c2).symm.trans hf
    refine V_iload_n (k := 2) (q := 12) hC 2 rfl dX6_anew_11 rfl ?_
    refine V_csi (st := []) (q := 15) hC (sX6_isDepth l hG h2 hs) (va_cwS 1 hC.2.2.2.2.1 gX6_anew_X6_isDepth rfl rfl rfl (by decide +kernel) ⟨Nat.le_of_ble_eq_true rfl, Nat.le_of_ble_eq_true rfl⟩) rfl rfl (Nat.le_of_ble_eq_true rfl) dX6_anew_12 rfl ⟨Nat.zero_le _, Nat.zero_le _⟩ (fun hr3 _ => ?_)
    refine V_if_ne (tgt := 21) (q := 18) hC hr3 dX6_anew_15 (by decide) rfl (fun c4 => ?_) (fun c4 => ?_)
    · replace hf := (if_neg c4).symm.trans hf
      refine V_aload_n (k := 0) (q := 22) hC 0 rfl dX6_anew_21 rfl ?_
      refine V_getf (T := TX6) (k := 2) (q := 25) hC uX6_anew_6 rfl iD6 rfl (by decide) kX6_anew_f25 rfl dX6_anew_22 rfl ?_
      refine V_getf (T := TX5) (k := 6) (q := 28) hC uX6_anew_5 rfl (iM5 (by decide)) rfl (by decide) kX6_anew_f178 rfl dX6_anew_25 rfl ?_
      refine V_iload_n (k := 1) (q := 29) hC 1 rfl dX6_anew_28 rfl ?_
      obtain ⟨g5, hf⟩ := gd_some hf
      refine V_iald (n := 8) (q := 30) hC (iM19 (by decide)) rfl g5 h1 dX6_anew_29 rfl ?_
      refine V_istore_n (k := 3) (i := 3) (lv' := [(0, rf G 6 0), (1, iv v1), (2, iv v2), (3, iv (σ 19 0 v1.toNat))]) (q := 31) hC [1, 2, 3, 0] rfl (by decide) rfl dX6_anew_30 rfl ?_
      refine V_iload_n (k := 3) (q := 32) hC 3 rfl dX6_anew_31 rfl ?_
      refine V_if_ne (tgt := 38) (q := 35) hC (hs _ _ _) dX6_anew_32 (by decide) rfl (fun c6 => ?_) (fun c6 => ?_)
      · replace hf := (if_neg c6).symm.trans hf
        refine V_aload_n (k := 0) (q := 39) hC 0 rfl dX6_anew_38 rfl ?_
        refine V_getf (T := TX6) (k := 5) (q := 42) hC uX6_anew_6 rfl iD6 rfl (by decide) kX6_anew_f39 rfl dX6_anew_39 rfl ?_
        refine V_aload_n (k := 0) (q := 43) hC 0 rfl dX6_anew_42 rfl ?_
        refine V_getf (T := TX6) (k := 2) (q := 46) hC uX6_anew_6 rfl iD6 rfl (by decide) kX6_anew_f25 rfl dX6_anew_43 rfl ?_
        obtain ⟨r7, σ8, hc9, hf⟩ := cl_some hf
        refine V_cvv (st := []) (q := 49) (σ0 := σ8) hC (sX1_keep l hG (by decide) hs hc9) (cwV 1 hC.2.2.2.2.1 gX6_anew_X1_keep rfl rfl rfl (by decide +kernel) ⟨Nat.le_of_ble_eq_true rfl, Nat.le_of_ble_eq_true rfl⟩) ⟨_, rfl, rfl⟩ iD1 (fun _ => ⟨_, rfl⟩) rfl rfl (Nat.le_of_ble_eq_true rfl) dX6_anew_46 rfl ⟨Nat.zero_le _, Nat.zero_le _⟩ (fun hs11 => ?_)
        refine V_aload_n (k := 0) (q := 50) hC 0 rfl dX6_anew_49 rfl ?_
        refine V_getf (T := TX6) (k := 2) (q := 53) hC uX6_anew_6 rfl iD6 rfl (by decide) kX6_anew_f25 rfl dX6_anew_50 rfl ?_
        refine V_getf (T := TX5) (k := 6) (q := 56) hC uX6_anew_5 rfl (iM5 (by decide)) rfl (by decide) kX6_anew_f178 rfl dX6_anew_53 rfl ?_
        refine V_iload_n (k := 1) (q := 57) hC 1 rfl dX6_anew_56 rfl ?_
        refine V_iload_n (k := 2) (q := 58) hC 2 rfl dX6_anew_57 rfl ?_
        obtain ⟨g12, hf⟩ := gd_some hf
        obtain ⟨σ13, e14, hf⟩ := sq_ex hf
        have hs15 : RgS σ13 := by rw [e14]; exact RgS_hup hs11 h2
        refine V_iast (n := 8) (q := 59) hC (iM19 (by decide)) rfl g12 h1 e14 dX6_anew_58 rfl ?_
        refine V_iload_n (k := 3) (q := 60) hC 3 rfl dX6_anew_59 rfl ?_
        exact V_iret hC hr hlk (re_1 hf) (re_2 hf) (hs _ _ _) hs15 dX6_anew_60
      · replace hf := (if_pos c6).symm.trans hf
        refine V_ldc (q := 37) (n := (-1000002)) hC (by decide) kX6_anew_c140 dX6_anew_35 rfl ?_
        exact V_iret hC hr hlk (re_1 hf) (re_2 hf) (Rg_c rfl) hs dX6_anew_37
    · replace hf := (if_pos c4).symm.trans hf
      refine V_ldc (q := 20) (n := (-1000001)) hC (by decide) kX6_anew_c62 dX6_anew_18 rfl ?_
      exact V_iret hC hr hlk (re_1 hf) (re_2 hf) (Rg_c rfl) hs dX6_anew_20
/-! X6_scrape -/
theorem kX6_scrape_f25 : Cond.fieldLink RX6 25 "BarkNames" "now" "LBarkNames$Wood;" ∈ wsX6_scrape := by decide +kernel
theorem uX6_scrape_6 : ∀ w ∈ u_ws RX6 TX6 10, w ∈ wsX6_scrape := by decide +kernel
theorem kX6_scrape_f39 : Cond.fieldLink RX6 39 "BarkNames" "past" "LBarkNames$Past;" ∈ wsX6_scrape := by decide +kernel
theorem kX6_scrape_f134 : Cond.fieldLink RX6 134 "BarkNames$Wood" "cutCount" "I" ∈ wsX6_scrape := by decide +kernel
theorem uX6_scrape_5 : ∀ w ∈ u_ws RX5 TX5 12, w ∈ wsX6_scrape := by decide +kernel
theorem kX6_scrape_c62 : Cond.constant RX6 62 (-1000001) ∈ wsX6_scrape := by decide +kernel
abbrev rmX6_scrape : Room := { frames := 3, cells := 0, slots := 0, locals := 68 }
set_option maxHeartbeats 4000000 in
set_option maxRecDepth 100000 in
theorem sX6_scrape (l : Launch) {G : GT} (hG : GI G) {v1 : Int} (h1 : Rg v1) {σ : Hp} (hs : RgS σ) {r0 : Int × Hp} (hf : fX6_scrape σ v1 = some r0) : Cti l G yX6_scrape wsX6_scrape rmX6_scrape [rf G 6 0, iv v1] σ r0.1 r0.2 := by
  unfold fX6_scrape at hf
  refine Cti_start (lv := [(0, rf G 6 0), (1, iv v1)]) (ret := (some .int)) (by decide +kernel) rfl hG (Nat.le_of_ble_eq_true rfl) rfl (fun p e s m args below meth c hC hr hlk => ?_)
  refine V_aload_n (k := 0) (q := 1) hC 0 rfl dX6_scrape_0 rfl ?_
  refine V_getf (T := TX6) (k := 2) (q := 4) hC uX6_scrape_6 rfl iD6 rfl (by decide) kX6_scrape_f25 rfl dX6_scrape_1 rfl ?_
  refine V_iload_n (k := 1) (q := 5) hC 1 rfl dX6_scrape_4 rfl ?_
  refine V_cvi (st := []) (q := 8) hC (sX5_hasCut l hG (by decide) h1 hs) (cwV 1 hC.2.2.2.2.1 gX6_scrape_X5_hasCut rfl rfl rfl (by decide +kernel) ⟨Nat.le_of_ble_eq_true rfl, Nat.le_of_ble_eq_true rfl⟩) ⟨_, rfl, rfl⟩ (iM5 (by decide)) (fun _ => ⟨_, rfl⟩) rfl rfl (Nat.le_of_ble_eq_true rfl) dX6_scrape_5 rfl ⟨Nat.zero_le _, Nat.zero_le _⟩ (fun hr1 _ => ?_)
  refine V_if_ne (tgt := 14) (q := 11) hC hr1 dX6_scrape_8 (by decide) rfl (fun c2 => ?_) (fun c2 => ?_)
  · replace hf := (if_neg c2).symm.trans hf
    refine V_aload_n (k := 0) (q := 15) hC 0 rfl dX6_scrape_14 rfl ?_
    refine V_getf (T := TX6) (k := 5) (q := 18) hC uX6_scrape_6 rfl iD6 rfl (by decide) kX6_scrape_f39 rfl dX6_scrape_15 rfl ?_
    refine V_aload_n (k := 0) (q := 19) hC 0 rfl dX6_scrape_18 rfl ?_
    refine V_getf (T := TX6) (k := 2) (q := 22) hC uX6_scrape_6 rfl iD6 rfl (by decide) kX6_scrape_f25 rfl dX6_scrape_19 rfl ?_
    obtain ⟨r3, σ4, hc5, hf⟩ := cl_some hf
    refine V_cvv (st := []) (q := 25) (σ0 := σ4) hC (sX1_keep l hG (by decide) hs hc5) (cwV 1 hC.2.2.2.2.1 gX6_scrape_X1_keep rfl rfl rfl (by decide +kernel) ⟨Nat.le_of_ble_eq_true rfl, Nat.le_of_ble_eq_true rfl⟩) ⟨_, rfl, rfl⟩ iD1 (fun _ => ⟨_, rfl⟩) rfl rfl (Nat.le_of_ble_eq_true rfl) dX6_scrape_22 rfl ⟨Nat.zero_le _, Nat.zero_le _⟩ (fun hs7 => ?_)
    refine V_aload_n (k := 0) (q := 26) hC 0 rfl dX6_scrape_25 rfl ?_
    refine V_getf (T := TX6) (k := 2) (q := 29) hC uX6_scrape_6 rfl iD6 rfl (by decide) kX6_scrape_f25 rfl dX6_scrape_26 rfl ?_
    refine V_iload_n (k := 1) (q := 30) hC 1 rfl dX6_scrape_29 rfl ?_
    obtain ⟨r8, σ9, hc10, hf⟩ := cl_some hf
    refine V_cvv (st := []) (q := 33) (σ0 := σ9) hC (sX5_removeCut l hG (by decide) h1 hs7 hc10) (cwV 1 hC.2.2.2.2.1 gX6_scrape_X5_removeCut rfl rfl rfl (by decide +kernel) ⟨Nat.le_of_ble_eq_true rfl, Nat.le_of_ble_eq_true rfl⟩) ⟨_, rfl, rfl⟩ (iM5 (by decide)) (fun _ => ⟨_, rfl⟩) rfl rfl (Nat.le_of_ble_eq_true rfl) dX6_scrape_30 rfl ⟨Nat.zero_le _, Nat.zero_le _⟩ (fun hs12 => ?_)
    refine V_aload_n (k := 0) (q := 34) hC 0 rfl dX6_scrape_33 rfl ?_
    refine V_getf (T := TX6) (k := 2) (q := 37) hC uX6_scrape_6 rfl iD6 rfl (by decide) kX6_scrape_f25 rfl dX6_scrape_34 rfl ?_
    refine V_getf (T := TX5) (k := 11) (q := 40) hC uX6_scrape_5 rfl (iM5 (by decide)) rfl (by decide) kX6_scrape_f134 rfl dX6_scrape_37 rfl ?_
    exact V_iret hC hr hlk (re_1 hf) (re_2 hf) (hs12 _ _ _) hs12 dX6_scrape_40
  · replace hf := (if_pos c2).symm.trans hf
    refine V_ldc (q := 13) (n := (-1000001)) hC (by decide) kX6_scrape_c62 dX6_scrape_11 rfl ?_
    exact V_iret hC hr hlk (re_1 hf) (re_2 hf) (Rg_c rfl) hs dX6_scrape_13
/-! X6_undo -/
theorem kX6_undo_f39 : Cond.fieldLink RX6 39 "BarkNames" "past" "LBarkNames$Past;" ∈ wsX6_undo := by decide +kernel
theorem uX6_undo_6 : ∀ w ∈ u_ws RX6 TX6 10, w ∈ wsX6_undo := by decide +kernel
theorem kX6_undo_f185 : Cond.fieldLink RX6 185 "BarkNames$Past" "kept" "I" ∈ wsX6_undo := by decide +kernel
theorem uX6_undo_1 : ∀ w ∈ u_ws RX1 TX1 3, w ∈ wsX6_undo := by decide +kernel
theorem kX6_undo_f25 : Cond.fieldLink RX6 25 "BarkNames" "now" "LBarkNames$Wood;" ∈ wsX6_undo := by decide +kernel
theorem kX6_undo_c140 : Cond.constant RX6 140 (-1000002) ∈ wsX6_undo := by decide +kernel
abbrev rmX6_undo : Room := { frames := 3, cells := 0, slots := 0, locals := 68 }
set_option maxHeartbeats 4000000 in
set_option maxRecDepth 100000 in
theorem sX6_undo (l : Launch) {G : GT} (hG : GI G) {σ : Hp} (hs : RgS σ) {r0 : Int × Hp} (hf : fX6_undo σ = some r0) : Cti l G yX6_undo wsX6_undo rmX6_undo [rf G 6 0] σ r0.1 r0.2 := by
  unfold fX6_undo at hf
  refine Cti_start (lv := [(0, rf G 6 0)]) (ret := (some .int)) (by decide +kernel) rfl hG (Nat.le_of_ble_eq_true rfl) rfl (fun p e s m args below meth c hC hr hlk => ?_)
  refine V_aload_n (k := 0) (q := 1) hC 0 rfl dX6_undo_0 rfl ?_
  refine V_getf (T := TX6) (k := 5) (q := 4) hC uX6_undo_6 rfl iD6 rfl (by decide) kX6_undo_f39 rfl dX6_undo_1 rfl ?_
  refine V_getf (T := TX1) (k := 2) (q := 7) hC uX6_undo_1 rfl iD1 rfl (by decide) kX6_undo_f185 rfl dX6_undo_4 rfl ?_
  refine V_if_ne (tgt := 13) (q := 10) hC (hs _ _ _) dX6_undo_7 (by decide) rfl (fun c1 => ?_) (fun c1 => ?_)
  · replace hf := (if_neg c1).symm.trans hf
    refine V_aload_n (k := 0) (q := 14) hC 0 rfl dX6_undo_13 rfl ?_
    refine V_getf (T := TX6) (k := 5) (q := 17) hC uX6_undo_6 rfl iD6 rfl (by decide) kX6_undo_f39 rfl dX6_undo_14 rfl ?_
    refine V_aload_n (k := 0) (q := 18) hC 0 rfl dX6_undo_17 rfl ?_
    refine V_getf (T := TX6) (k := 2) (q := 21) hC uX6_undo_6 rfl iD6 rfl (by decide) kX6_undo_f25 rfl dX6_undo_18 rfl ?_
    obtain ⟨r2, σ3, hc4, hf⟩ := cl_some hf
    refine V_cvv (st := []) (q := 24) (σ0 := σ3) hC (sX1_bringBack l hG (by decide) hs hc4) (cwV 1 hC.2.2.2.2.1 gX6_undo_X1_bringBack rfl rfl rfl (by decide +kernel) ⟨Nat.le_of_ble_eq_true rfl, Nat.le_of_ble_eq_true rfl⟩) ⟨_, rfl, rfl⟩ iD1 (fun _ => ⟨_, rfl⟩) rfl rfl (Nat.le_of_ble_eq_true rfl) dX6_undo_21 rfl ⟨Nat.zero_le _, Nat.zero_le _⟩ (fun hs6 => ?_)
    refine V_aload_n (k := 0) (q := 25) hC 0 rfl dX6_undo_24 rfl ?_
    refine V_getf (T := TX6) (k := 5) (q := 28) hC uX6_undo_6 rfl iD6 rfl (by decide) kX6_undo_f39 rfl dX6_undo_25 rfl ?_
    refine V_getf (T := TX1) (k := 2) (q := 31) hC uX6_undo_1 rfl iD1 rfl (by decide) kX6_undo_f185 rfl dX6_undo_28 rfl ?_
    exact V_iret hC hr hlk (re_1 hf) (re_2 hf) (hs6 _ _ _) hs6 dX6_undo_31
  · replace hf := (if_pos c1).symm.trans hf
    refine V_ldc (q := 12) (n := (-1000002)) hC (by decide) kX6_undo_c140 dX6_undo_10 rfl ?_
    exact V_iret hC hr hlk (re_1 hf) (re_2 hf) (Rg_c rfl) hs dX6_undo_12
/-! X6_tree -/
theorem kX6_tree_f25 : Cond.fieldLink RX6 25 "BarkNames" "now" "LBarkNames$Wood;" ∈ wsX6_tree := by decide +kernel
theorem uX6_tree_6 : ∀ w ∈ u_ws RX6 TX6 10, w ∈ wsX6_tree := by decide +kernel
theorem kX6_tree_f191 : Cond.fieldLink RX6 191 "BarkNames$Wood" "girthOf" "[I" ∈ wsX6_tree := by decide +kernel
theorem uX6_tree_5 : ∀ w ∈ u_ws RX5 TX5 12, w ∈ wsX6_tree := by decide +kernel
theorem kX6_tree_f194 : Cond.fieldLink RX6 194 "BarkNames$Wood" "sunOf" "[I" ∈ wsX6_tree := by decide +kernel
theorem kX6_tree_c62 : Cond.constant RX6 62 (-1000001) ∈ wsX6_tree := by decide +kernel
abbrev rmX6_tree : Room := { frames := 2, cells := 0, slots := 0, locals := 45 }
set_option maxHeartbeats 4000000 in
set_option maxRecDepth 100000 in
theorem sX6_tree (l : Launch) {G : GT} (hG : GI G) {v1 : Int} {v2 : Int} (h1 : Rg v1) (h2 : Rg v2) {σ : Hp} (hs : RgS σ) {r0 : Int × Hp} (hf : fX6_tree σ v1 v2 = some r0) : Cti l G yX6_tree wsX6_tree rmX6_tree [rf G 6 0, iv v1, iv v2] σ r0.1 r0.2 := by
  unfold fX6_tree at hf
  refine Cti_start (lv := [(0, rf G 6 0), (1, iv v1), (2, iv v2)]) (ret := (some .int)) (by decide +kernel) rfl hG (Nat.le_of_ble_eq_true rfl) rfl (fun p e s m args below meth c hC hr hlk => ?_)
  refine V_aload_n (k := 0) (q := 1) hC 0 rfl dX6_tree_0 rfl ?_
  refine V_getf (T := TX6) (k := 2) (q := 4) hC uX6_tree_6 rfl iD6 rfl (by decide) kX6_tree_f25 rfl dX6_tree_1 rfl ?_
  refine V_iload_n (k := 1) (q := 5) hC 1 rfl dX6_tree_4 rfl ?_
  refine V_cvi (st := []) (q := 8) hC (sX5_hasTree l hG (by decide) h1 hs) (cwV 1 hC.2.2.2.2.1 gX6_tree_X5_hasTree rfl rfl rfl (by decide +kernel) ⟨Nat.le_of_ble_eq_true rfl, Nat.le_of_ble_eq_true rfl⟩) ⟨_, rfl, rfl⟩ (iM5 (by decide)) (fun _ => ⟨_, rfl⟩) rfl rfl (Nat.le_of_ble_eq_true rfl) dX6_tree_5 rfl ⟨Nat.zero_le _, Nat.zero_le _⟩ (fun hr1 _ => ?_)
  refine V_if_ne (tgt := 14) (q := 11) hC hr1 dX6_tree_8 (by decide) rfl (fun c2 => ?_) (fun c2 => ?_)
  · replace hf := (if_neg c2).symm.trans hf
    refine V_iload_n (k := 2) (q := 15) hC 2 rfl dX6_tree_14 rfl ?_
    by_cases c3 : v2 = 0
    · replace hf := (if_pos c3).symm.trans hf
      refine V_tabIn (tgt := 44) hC h2 dX6_tree_15 (by omega) (by omega) (by rw [c3]; rfl) (by decide) ?_
      refine V_aload_n (k := 0) (q := 45) hC 0 rfl dX6_tree_44 rfl ?_
      refine V_getf (T := TX6) (k := 2) (q := 48) hC uX6_tree_6 rfl iD6 rfl (by decide) kX6_tree_f25 rfl dX6_tree_45 rfl ?_
      refine V_getf (T := TX5) (k := 1) (q := 51) hC uX6_tree_5 rfl (iM5 (by decide)) rfl (by decide) kX6_tree_f191 rfl dX6_tree_48 rfl ?_
      refine V_iload_n (k := 1) (q := 52) hC 1 rfl dX6_tree_51 rfl ?_
      obtain ⟨g4, hf⟩ := gd_some hf
      refine V_iald (n := 4) (q := 53) hC (iM14 (by decide)) rfl g4 h1 dX6_tree_52 rfl ?_
      exact V_iret hC hr hlk (re_1 hf) (re_2 hf) (hs _ _ _) hs dX6_tree_53
    · replace hf := (if_neg c3).symm.trans hf
      by_cases c5 : v2 = 1
      · replace hf := (if_pos c5).symm.trans hf
        refine V_tabIn (tgt := 54) hC h2 dX6_tree_15 (by omega) (by omega) (by rw [c5]; rfl) (by decide) ?_
        refine V_aload_n (k := 0) (q := 55) hC 0 rfl dX6_tree_54 rfl ?_
        refine V_getf (T := TX6) (k := 2) (q := 58) hC uX6_tree_6 rfl iD6 rfl (by decide) kX6_tree_f25 rfl dX6_tree_55 rfl ?_
        refine V_getf (T := TX5) (k := 2) (q := 61) hC uX6_tree_5 rfl (iM5 (by decide)) rfl (by decide) kX6_tree_f194 rfl dX6_tree_58 rfl ?_
        refine V_iload_n (k := 1) (q := 62) hC 1 rfl dX6_tree_61 rfl ?_
        obtain ⟨g6, hf⟩ := gd_some hf
        refine V_iald (n := 4) (q := 63) hC (iM15 (by decide)) rfl g6 h1 dX6_tree_62 rfl ?_
        exact V_iret hC hr hlk (re_1 hf) (re_2 hf) (hs _ _ _) hs dX6_tree_63
      · replace hf := (if_neg c5).symm.trans hf
        by_cases c7 : v2 = 2
        · replace hf := (if_pos c7).symm.trans hf
          refine V_tabIn (tgt := 64) hC h2 dX6_tree_15 (by omega) (by omega) (by rw [c7]; rfl) (by decide) ?_
          refine V_aload_n (k := 0) (q := 65) hC 0 rfl dX6_tree_64 rfl ?_
          refine V_getf (T := TX6) (k := 2) (q := 68) hC uX6_tree_6 rfl iD6 rfl (by decide) kX6_tree_f25 rfl dX6_tree_65 rfl ?_
          refine V_iload_n (k := 1) (q := 69) hC 1 rfl dX6_tree_68 rfl ?_
          obtain ⟨r8, σ9, hc10, hf⟩ := cl_some hf
          refine V_cvi (st := []) (q := 72) (x0 := r8) (σ0 := σ9) hC (sX5_readableOn l hG (by decide) h1 hs hc10) (cwV 1 hC.2.2.2.2.1 gX6_tree_X5_readableOn rfl rfl rfl (by decide +kernel) ⟨Nat.le_of_ble_eq_true rfl, Nat.le_of_ble_eq_true rfl⟩) ⟨_, rfl, rfl⟩ (iM5 (by decide)) (fun _ => ⟨_, rfl⟩) rfl rfl (Nat.le_of_ble_eq_true rfl) dX6_tree_69 rfl ⟨Nat.zero_le _, Nat.zero_le _⟩ (fun hr11 hs12 => ?_)
          exact V_iret hC hr hlk (re_1 hf) (re_2 hf) hr11 hs12 dX6_tree_72
        · replace hf := (if_neg c7).symm.trans hf
          by_cases c13 : v2 = 3
          · replace hf := (if_pos c13).symm.trans hf
            refine V_tabIn (tgt := 73) hC h2 dX6_tree_15 (by omega) (by omega) (by rw [c13]; rfl) (by decide) ?_
            refine V_aload_n (k := 0) (q := 74) hC 0 rfl dX6_tree_73 rfl ?_
            refine V_getf (T := TX6) (k := 2) (q := 77) hC uX6_tree_6 rfl iD6 rfl (by decide) kX6_tree_f25 rfl dX6_tree_74 rfl ?_
            refine V_iload_n (k := 1) (q := 78) hC 1 rfl dX6_tree_77 rfl ?_
            obtain ⟨r14, σ15, hc16, hf⟩ := cl_some hf
            refine V_cvi (st := []) (q := 81) (x0 := r14) (σ0 := σ15) hC (sX5_growth l hG (by decide) h1 hs hc16) (cwV 1 hC.2.2.2.2.1 gX6_tree_X5_growth rfl rfl rfl (by decide +kernel) ⟨Nat.le_of_ble_eq_true rfl, Nat.le_of_ble_eq_true rfl⟩) ⟨_, rfl, rfl⟩ (iM5 (by decide)) (fun _ => ⟨_, rfl⟩) rfl rfl (Nat.le_of_ble_eq_true rfl) dX6_tree_78 rfl ⟨Nat.zero_le _, Nat.zero_le _⟩ (fun hr17 hs18 => ?_)
            exact V_iret hC hr hlk (re_1 hf) (re_2 hf) hr17 hs18 dX6_tree_81
          · replace hf := (if_neg c13).symm.trans hf
            refine V_tabOut (tgt := 82) hC h2 dX6_tree_15 (by omega) (by decide) ?_
            refine V_ldc (q := 84) (n := (-1000001)) hC (by decide) kX6_tree_c62 dX6_tree_82 rfl ?_
            exact V_iret hC hr hlk (re_1 hf) (re_2 hf) (Rg_c rfl) hs dX6_tree_84
  · replace hf := (if_pos c2).symm.trans hf
    refine V_ldc (q := 13) (n := (-1000001)) hC (by decide) kX6_tree_c62 dX6_tree_11 rfl ?_
    exact V_iret hC hr hlk (re_1 hf) (re_2 hf) (Rg_c rfl) hs dX6_tree_13
/-! X6_cutHas -/
theorem kX6_cutHas_f25 : Cond.fieldLink RX6 25 "BarkNames" "now" "LBarkNames$Wood;" ∈ wsX6_cutHas := by decide +kernel
theorem uX6_cutHas_6 : ∀ w ∈ u_ws RX6 TX6 10, w ∈ wsX6_cutHas := by decide +kernel
theorem kX6_cutHas_f203 : Cond.fieldLink RX6 203 "BarkNames$Wood" "treeOf" "[I" ∈ wsX6_cutHas := by decide +kernel
theorem uX6_cutHas_5 : ∀ w ∈ u_ws RX5 TX5 12, w ∈ wsX6_cutHas := by decide +kernel
theorem kX6_cutHas_f206 : Cond.fieldLink RX6 206 "BarkNames$Wood" "letterOf" "[I" ∈ wsX6_cutHas := by decide +kernel
theorem kX6_cutHas_f209 : Cond.fieldLink RX6 209 "BarkNames$Wood" "placeOf" "[I" ∈ wsX6_cutHas := by decide +kernel
theorem kX6_cutHas_f178 : Cond.fieldLink RX6 178 "BarkNames$Wood" "depthOf" "[I" ∈ wsX6_cutHas := by decide +kernel
theorem kX6_cutHas_c62 : Cond.constant RX6 62 (-1000001) ∈ wsX6_cutHas := by decide +kernel
abbrev rmX6_cutHas : Room := { frames := 2, cells := 0, slots := 0, locals := 42 }
set_option maxHeartbeats 4000000 in
set_option maxRecDepth 100000 in
theorem sX6_cutHas (l : Launch) {G : GT} (hG : GI G) {v1 : Int} {v2 : Int} (h1 : Rg v1) (h2 : Rg v2) {σ : Hp} (hs : RgS σ) {r0 : Int × Hp} (hf : fX6_cutHas σ v1 v2 = some r0) : Cti l G yX6_cutHas wsX6_cutHas rmX6_cutHas [rf G 6 0, iv v1, iv v2] σ r0.1 r0.2 := by
  unfold fX6_cutHas at hf
  refine Cti_start (lv := [(0, rf G 6 0), (1, iv v1), (2, iv v2)]) (ret := (some .int)) (by decide +kernel) rfl hG (Nat.le_of_ble_eq_true rfl) rfl (fun p e s m args below meth c hC hr hlk => ?_)
  refine V_aload_n (k := 0) (q := 1) hC 0 rfl dX6_cutHas_0 rfl ?_
  refine V_getf (T := TX6) (k := 2) (q := 4) hC uX6_cutHas_6 rfl iD6 rfl (by decide) kX6_cutHas_f25 rfl dX6_cutHas_1 rfl ?_
  refine V_iload_n (k := 1) (q := 5) hC 1 rfl dX6_cutHas_4 rfl ?_
  refine V_cvi (st := []) (q := 8) hC (sX5_hasCut l hG (by decide) h1 hs) (cwV 1 hC.2.2.2.2.1 gX6_cutHas_X5_hasCut rfl rfl rfl (by decide +kernel) ⟨Nat.le_of_ble_eq_true rfl, Nat.le_of_ble_eq_true rfl⟩) ⟨_, rfl, rfl⟩ (iM5 (by decide)) (fun _ => ⟨_, rfl⟩) rfl rfl (Nat.le_of_ble_eq_true rfl) dX6_cutHas_5 rfl ⟨Nat.zero_le _, Nat.zero_le _⟩ (fun hr1 _ => ?_)
  refine V_if_ne (tgt := 14) (q := 11) hC hr1 dX6_cutHas_8 (by decide) rfl (fun c2 => ?_) (fun c2 => ?_)
  · replace hf := (if_neg c2).symm.trans hf
    refine V_iload_n (k := 2) (q := 15) hC 2 rfl dX6_cutHas_14 rfl ?_
    by_cases c3 : v2 = 0
    · replace hf := (if_pos c3).symm.trans hf
      refine V_tabIn (tgt := 44) hC h2 dX6_cutHas_15 (by omega) (by omega) (by rw [c3]; rfl) (by decide) ?_
      refine V_aload_n (k := 0) (q := 45) hC 0 rfl dX6_cutHas_44 rfl ?_
      refine V_getf (T := TX6) (k := 2) (q := 48) hC uX6_cutHas_6 rfl iD6 rfl (by decide) kX6_cutHas_f25 rfl dX6_cutHas_45 rfl ?_
      refine V_getf (T := TX5) (k := 3) (q := 51) hC uX6_cutHas_5 rfl (iM5 (by decide)) rfl (by decide) kX6_cutHas_f203 rfl dX6_cutHas_48 rfl ?_
      refine V_iload_n (k := 1) (q := 52) hC 1 rfl dX6_cutHas_51 rfl ?_
      obtain ⟨g4, hf⟩ := gd_some hf
      refine V_iald (n := 8) (q := 53) hC (iM16 (by decide)) rfl g4 h1 dX6_cutHas_52 rfl ?_
      exact V_iret hC hr hlk (re_1 hf) (re_2 hf) (hs _ _ _) hs dX6_cutHas_53
    · replace hf := (if_neg c3).symm.trans hf
      by_cases c5 : v2 = 1
      · replace hf := (if_pos c5).symm.trans hf
        refine V_tabIn (tgt := 54) hC h2 dX6_cutHas_15 (by omega) (by omega) (by rw [c5]; rfl) (by decide) ?_
        refine V_aload_n (k := 0) (q := 55) hC 0 rfl dX6_cutHas_54 rfl ?_
        refine V_getf (T := TX6) (k := 2) (q := 58) hC uX6_cutHas_6 rfl iD6 rfl (by decide) kX6_cutHas_f25 rfl dX6_cutHas_55 rfl ?_
        refine V_getf (T := TX5) (k := 4) (q := 61) hC uX6_cutHas_5 rfl (iM5 (by decide)) rfl (by decide) kX6_cutHas_f206 rfl dX6_cutHas_58 rfl ?_
        refine V_iload_n (k := 1) (q := 62) hC 1 rfl dX6_cutHas_61 rfl ?_
        obtain ⟨g6, hf⟩ := gd_some hf
        refine V_iald (n := 8) (q := 63) hC (iM17 (by decide)) rfl g6 h1 dX6_cutHas_62 rfl ?_
        exact V_iret hC hr hlk (re_1 hf) (re_2 hf) (hs _ _ _) hs dX6_cutHas_63
      · replace hf := (if_neg c5).symm.trans hf
        by_cases c7 : v2 = 2
        · replace hf := (if_pos c7).symm.trans hf
          refine V_tabIn (tgt := 64) hC h2 dX6_cutHas_15 (by omega) (by omega) (by rw [c7]; rfl) (by decide) ?_
          refine V_aload_n (k := 0) (q := 65) hC 0 rfl dX6_cutHas_64 rfl ?_
          refine V_getf (T := TX6) (k := 2) (q := 68) hC uX6_cutHas_6 rfl iD6 rfl (by decide) kX6_cutHas_f25 rfl dX6_cutHas_65 rfl ?_
          refine V_getf (T := TX5) (k := 5) (q := 71) hC uX6_cutHas_5 rfl (iM5 (by decide)) rfl (by decide) kX6_cutHas_f209 rfl dX6_cutHas_68 rfl ?_
          refine V_iload_n (k := 1) (q := 72) hC 1 rfl dX6_cutHas_71 rfl ?_
          obtain ⟨g8, hf⟩ := gd_some hf
          refine V_iald (n := 8) (q := 73) hC (iM18 (by decide)) rfl g8 h1 dX6_cutHas_72 rfl ?_
          exact V_iret hC hr hlk (re_1 hf) (re_2 hf) (hs _ _ _) hs dX6_cutHas_73
        · replace hf := (if_neg c7).symm.trans hf
          by_cases c9 : v2 = 3
          · replace hf := (if_pos c9).symm.trans hf
            refine V_tabIn (tgt := 74) hC h2 dX6_cutHas_15 (by omega) (by omega) (by rw [c9]; rfl) (by decide) ?_
            refine V_aload_n (k := 0) (q := 75) hC 0 rfl dX6_cutHas_74 rfl ?_
            refine V_getf (T := TX6) (k := 2) (q := 78) hC uX6_cutHas_6 rfl iD6 rfl (by decide) kX6_cutHas_f25 rfl dX6_cutHas_75 rfl ?_
            refine V_getf (T := TX5) (k := 6) (q := 81) hC uX6_cutHas_5 rfl (iM5 (by decide)) rfl (by decide) kX6_cutHas_f178 rfl dX6_cutHas_78 rfl ?_
            refine V_iload_n (k := 1) (q := 82) hC 1 rfl dX6_cutHas_81 rfl ?_
            obtain ⟨g10, hf⟩ := gd_some hf
            refine V_iald (n := 8) (q := 83) hC (iM19 (by decide)) rfl g10 h1 dX6_cutHas_82 rfl ?_
            exact V_iret hC hr hlk (re_1 hf) (re_2 hf) (hs _ _ _) hs dX6_cutHas_83
          · replace hf := (if_neg c9).symm.trans hf
            refine V_tabOut (tgt := 84) hC h2 dX6_cutHas_15 (by omega) (by decide) ?_
            refine V_ldc (q := 86) (n := (-1000001)) hC (by decide) kX6_cutHas_c62 dX6_cutHas_84 rfl ?_
            exact V_iret hC hr hlk (re_1 hf) (re_2 hf) (Rg_c rfl) hs dX6_cutHas_86
  · replace hf := (if_pos c2).symm.trans hf
    refine V_ldc (q := 13) (n := (-1000001)) hC (by decide) kX6_cutHas_c62 dX6_cutHas_11 rfl ?_
    exact V_iret hC hr hlk (re_1 hf) (re_2 hf) (Rg_c rfl) hs dX6_cutHas_13
/-! X6_apart -/
theorem kX6_apart_f25 : Cond.fieldLink RX6 25 "BarkNames" "now" "LBarkNames$Wood;" ∈ wsX6_apart := by decide +kernel
theorem uX6_apart_6 : ∀ w ∈ u_ws RX6 TX6 10, w ∈ wsX6_apart := by decide +kernel
theorem kX6_apart_c62 : Cond.constant RX6 62 (-1000001) ∈ wsX6_apart := by decide +kernel
theorem kX6_apart_c219 : Cond.constant RX6 219 (-1000000) ∈ wsX6_apart := by decide +kernel
abbrev rmX6_apart : Room := { frames := 3, cells := 0, slots := 0, locals := 66 }
set_option maxHeartbeats 4000000 in
set_option maxRecDepth 100000 in
theorem sX6_apart (l : Launch) {G : GT} (hG : GI G) {v1 : Int} {v2 : Int} (h1 : Rg v1) (h2 : Rg v2) {σ : Hp} (hs : RgS σ) {r0 : Int × Hp} (hf : fX6_apart σ v1 v2 = some r0) : Cti l G yX6_apart wsX6_apart rmX6_apart [rf G 6 0, iv v1, iv v2] σ r0.1 r0.2 := by
  unfold fX6_apart at hf
  refine Cti_start (lv := [(0, rf G 6 0), (1, iv v1), (2, iv v2)]) (ret := (some .int)) (by decide +kernel) rfl hG (Nat.le_of_ble_eq_true rfl) rfl (fun p e s m args below meth c hC hr hlk => ?_)
  refine V_aload_n (k := 0) (q := 1) hC 0 rfl dX6_apart_0 rfl ?_
  refine V_getf (T := TX6) (k := 2) (q := 4) hC uX6_apart_6 rfl iD6 rfl (by decide) kX6_apart_f25 rfl dX6_apart_1 rfl ?_
  refine V_iload_n (k := 1) (q := 5) hC 1 rfl dX6_apart_4 rfl ?_
  refine V_cvi (st := []) (q := 8) hC (sX5_hasCut l hG (by decide) h1 hs) (cwV 1 hC.2.2.2.2.1 gX6_apart_X5_hasCut rfl rfl rfl (by decide +kernel) ⟨Nat.le_of_ble_eq_true rfl, Nat.le_of_ble_eq_true rfl⟩) ⟨_, rfl, rfl⟩ (iM5 (by decide)) (fun _ => ⟨_, rfl⟩) rfl rfl (Nat.le_of_ble_eq_true rfl) dX6_apart_5 rfl ⟨Nat.zero_le _, Nat.zero_le _⟩ (fun hr1 _ => ?_)
  refine V_if_eq (tgt := 27) (q := 11) hC hr1 dX6_apart_8 (by decide) rfl (fun c2 => ?_) (fun c2 => ?_)
  · replace hf := (if_pos c2).symm.trans hf
    refine V_ldc (q := 29) (n := (-1000001)) hC (by decide) kX6_apart_c62 dX6_apart_27 rfl ?_
    exact V_iret hC hr hlk (re_1 hf) (re_2 hf) (Rg_c rfl) hs dX6_apart_29
  · replace hf := (if_neg c2).symm.trans hf
    refine V_aload_n (k := 0) (q := 12) hC 0 rfl dX6_apart_11 rfl ?_
    refine V_getf (T := TX6) (k := 2) (q := 15) hC uX6_apart_6 rfl iD6 rfl (by decide) kX6_apart_f25 rfl dX6_apart_12 rfl ?_
    refine V_iload_n (k := 2) (q := 16) hC 2 rfl dX6_apart_15 rfl ?_
    refine V_cvi (st := []) (q := 19) hC (sX5_hasCut l hG (by decide) h2 hs) (cwV 1 hC.2.2.2.2.1 gX6_apart_X5_hasCut rfl rfl rfl (by decide +kernel) ⟨Nat.le_of_ble_eq_true rfl, Nat.le_of_ble_eq_true rfl⟩) ⟨_, rfl, rfl⟩ (iM5 (by decide)) (fun _ => ⟨_, rfl⟩) rfl rfl (Nat.le_of_ble_eq_true rfl) dX6_apart_16 rfl ⟨Nat.zero_le _, Nat.zero_le _⟩ (fun hr3 _ => ?_)
    refine V_if_eq (tgt := 27) (q := 22) hC hr3 dX6_apart_19 (by decide) rfl (fun c4 => ?_) (fun c4 => ?_)
    · replace hf := (if_pos c4).symm.trans hf
      refine V_ldc (q := 29) (n := (-1000001)) hC (by decide) kX6_apart_c62 dX6_apart_27 rfl ?_
      exact V_iret hC hr hlk (re_1 hf) (re_2 hf) (Rg_c rfl) hs dX6_apart_29
    · replace hf := (if_neg c4).symm.trans hf
      refine V_iload_n (k := 1) (q := 23) hC 1 rfl dX6_apart_22 rfl ?_
      refine V_iload_n (k := 2) (q := 24) hC 2 rfl dX6_apart_23 rfl ?_
      refine V_icmp_ne (tgt := 30) (q := 27) hC h1 h2 dX6_apart_24 (by decide) rfl (fun c5 => ?_) (fun c5 => ?_)
      · replace hf := (if_neg c5).symm.trans hf
        refine V_aload_n (k := 0) (q := 31) hC 0 rfl dX6_apart_30 rfl ?_
        refine V_getf (T := TX6) (k := 2) (q := 34) hC uX6_apart_6 rfl iD6 rfl (by decide) kX6_apart_f25 rfl dX6_apart_31 rfl ?_
        refine V_iload_n (k := 1) (q := 35) hC 1 rfl dX6_apart_34 rfl ?_
        refine V_iload_n (k := 2) (q := 36) hC 2 rfl dX6_apart_35 rfl ?_
        obtain ⟨r6, σ7, hc8, hf⟩ := cl_some hf
        refine V_cvi (st := []) (q := 39) (x0 := r6) (σ0 := σ7) hC (sX5_bothReadable l hG (by decide) h1 h2 hs hc8) (cwV 2 hC.2.2.2.2.1 gX6_apart_X5_bothReadable rfl rfl rfl (by decide +kernel) ⟨Nat.le_of_ble_eq_true rfl, Nat.le_of_ble_eq_true rfl⟩) ⟨_, rfl, rfl⟩ (iM5 (by decide)) (fun _ => ⟨_, rfl⟩) rfl rfl (Nat.le_of_ble_eq_true rfl) dX6_apart_36 rfl ⟨Nat.zero_le _, Nat.zero_le _⟩ (fun hr9 hs10 => ?_)
        refine V_if_eq (tgt := 54) (q := 42) hC hr9 dX6_apart_39 (by decide) rfl (fun c11 => ?_) (fun c11 => ?_)
        · replace hf := (if_pos c11).symm.trans hf
          refine V_ldc (q := 56) (n := (-1000000)) hC (by decide) kX6_apart_c219 dX6_apart_54 rfl ?_
          exact V_iret hC hr hlk (re_1 hf) (re_2 hf) (Rg_c rfl) hs10 dX6_apart_56
        · replace hf := (if_neg c11).symm.trans hf
          refine V_aload_n (k := 0) (q := 43) hC 0 rfl dX6_apart_42 rfl ?_
          refine V_getf (T := TX6) (k := 2) (q := 46) hC uX6_apart_6 rfl iD6 rfl (by decide) kX6_apart_f25 rfl dX6_apart_43 rfl ?_
          refine V_iload_n (k := 1) (q := 47) hC 1 rfl dX6_apart_46 rfl ?_
          refine V_iload_n (k := 2) (q := 48) hC 2 rfl dX6_apart_47 rfl ?_
          obtain ⟨r12, σ13, hc14, hf⟩ := cl_some hf
          refine V_cvi (st := []) (q := 51) (x0 := r12) (σ0 := σ13) hC (sX5_distance l hG (by decide) h1 h2 hs10 hc14) (cwV 2 hC.2.2.2.2.1 gX6_apart_X5_distance rfl rfl rfl (by decide +kernel) ⟨Nat.le_of_ble_eq_true rfl, Nat.le_of_ble_eq_true rfl⟩) ⟨_, rfl, rfl⟩ (iM5 (by decide)) (fun _ => ⟨_, rfl⟩) rfl rfl (Nat.le_of_ble_eq_true rfl) dX6_apart_48 rfl ⟨Nat.zero_le _, Nat.zero_le _⟩ (fun hr15 hs16 => ?_)
          refine V_goto (tgt := 56) hC dX6_apart_51 (by decide) ?_
          exact V_iret hC hr hlk (re_1 hf) (re_2 hf) hr15 hs16 dX6_apart_56
      · replace hf := (if_pos c5).symm.trans hf
        refine V_ldc (q := 29) (n := (-1000001)) hC (by decide) kX6_apart_c62 dX6_apart_27 rfl ?_
        exact V_iret hC hr hlk (re_1 hf) (re_2 hf) (Rg_c rfl) hs dX6_apart_29
/-! X6_isPair -/
theorem kX6_isPair_f25 : Cond.fieldLink RX6 25 "BarkNames" "now" "LBarkNames$Wood;" ∈ wsX6_isPair := by decide +kernel
theorem uX6_isPair_6 : ∀ w ∈ u_ws RX6 TX6 10, w ∈ wsX6_isPair := by decide +kernel
theorem kX6_isPair_f203 : Cond.fieldLink RX6 203 "BarkNames$Wood" "treeOf" "[I" ∈ wsX6_isPair := by decide +kernel
theorem uX6_isPair_5 : ∀ w ∈ u_ws RX5 TX5 12, w ∈ wsX6_isPair := by decide +kernel
abbrev rmX6_isPair : Room := { frames := 2, cells := 0, slots := 0, locals := 42 }
set_option maxHeartbeats 4000000 in
set_option maxRecDepth 100000 in
theorem sX6_isPair (l : Launch) {G : GT} (hG : GI G) {v1 : Int} {v2 : Int} (h1 : Rg v1) (h2 : Rg v2) {σ : Hp} (hs : RgS σ) {r0 : Int × Hp} (hf : fX6_isPair σ v1 v2 = some r0) : Cti l G yX6_isPair wsX6_isPair rmX6_isPair [rf G 6 0, iv v1, iv v2] σ r0.1 r0.2 := by
  unfold fX6_isPair at hf
  refine Cti_start (lv := [(0, rf G 6 0), (1, iv v1), (2, iv v2)]) (ret := (some .boolean)) (by decide +kernel) rfl hG (Nat.le_of_ble_eq_true rfl) rfl (fun p e s m args below meth c hC hr hlk => ?_)
  refine V_aload_n (k := 0) (q := 1) hC 0 rfl dX6_isPair_0 rfl ?_
  refine V_getf (T := TX6) (k := 2) (q := 4) hC uX6_isPair_6 rfl iD6 rfl (by decide) kX6_isPair_f25 rfl dX6_isPair_1 rfl ?_
  refine V_iload_n (k := 1) (q := 5) hC 1 rfl dX6_isPair_4 rfl ?_
  refine V_cvi (st := []) (q := 8) hC (sX5_hasCut l hG (by decide) h1 hs) (cwV 1 hC.2.2.2.2.1 gX6_isPair_X5_hasCut rfl rfl rfl (by decide +kernel) ⟨Nat.le_of_ble_eq_true rfl, Nat.le_of_ble_eq_true rfl⟩) ⟨_, rfl, rfl⟩ (iM5 (by decide)) (fun _ => ⟨_, rfl⟩) rfl rfl (Nat.le_of_ble_eq_true rfl) dX6_isPair_5 rfl ⟨Nat.zero_le _, Nat.zero_le _⟩ (fun hr1 _ => ?_)
  refine V_if_eq (tgt := 52) (q := 11) hC hr1 dX6_isPair_8 (by decide) rfl (fun c2 => ?_) (fun c2 => ?_)
  · replace hf := (if_pos c2).symm.trans hf
    refine V_iconst (q := 53) hC dX6_isPair_52 rfl ?_
    exact V_zret hC hr hlk (Or.inl rfl) (re_1 hf) (re_2 hf) hs dX6_isPair_53
  · replace hf := (if_neg c2).symm.trans hf
    refine V_aload_n (k := 0) (q := 12) hC 0 rfl dX6_isPair_11 rfl ?_
    refine V_getf (T := TX6) (k := 2) (q := 15) hC uX6_isPair_6 rfl iD6 rfl (by decide) kX6_isPair_f25 rfl dX6_isPair_12 rfl ?_
    refine V_iload_n (k := 2) (q := 16) hC 2 rfl dX6_isPair_15 rfl ?_
    refine V_cvi (st := []) (q := 19) hC (sX5_hasCut l hG (by decide) h2 hs) (cwV 1 hC.2.2.2.2.1 gX6_isPair_X5_hasCut rfl rfl rfl (by decide +kernel) ⟨Nat.le_of_ble_eq_true rfl, Nat.le_of_ble_eq_true rfl⟩) ⟨_, rfl, rfl⟩ (iM5 (by decide)) (fun _ => ⟨_, rfl⟩) rfl rfl (Nat.le_of_ble_eq_true rfl) dX6_isPair_16 rfl ⟨Nat.zero_le _, Nat.zero_le _⟩ (fun hr3 _ => ?_)
    refine V_if_eq (tgt := 52) (q := 22) hC hr3 dX6_isPair_19 (by decide) rfl (fun c4 => ?_) (fun c4 => ?_)
    · replace hf := (if_pos c4).symm.trans hf
      refine V_iconst (q := 53) hC dX6_isPair_52 rfl ?_
      exact V_zret hC hr hlk (Or.inl rfl) (re_1 hf) (re_2 hf) hs dX6_isPair_53
    · replace hf := (if_neg c4).symm.trans hf
      refine V_iload_n (k := 1) (q := 23) hC 1 rfl dX6_isPair_22 rfl ?_
      refine V_iload_n (k := 2) (q := 24) hC 2 rfl dX6_isPair_23 rfl ?_
      refine V_icmp_eq (tgt := 52) (q := 27) hC h1 h2 dX6_isPair_24 (by decide) rfl (fun c5 => ?_) (fun c5 => ?_)
      · replace hf := (if_pos c5).symm.trans hf
        refine V_iconst (q := 53) hC dX6_isPair_52 rfl ?_
        exact V_zret hC hr hlk (Or.inl rfl) (re_1 hf) (re_2 hf) hs dX6_isPair_53
      · replace hf := (if_neg c5).symm.trans hf
        refine V_aload_n (k := 0) (q := 28) hC 0 rfl dX6_isPair_27 rfl ?_
        refine V_getf (T := TX6) (k := 2) (q := 31) hC uX6_isPair_6 rfl iD6 rfl (by decide) kX6_isPair_f25 rfl dX6_isPair_28 rfl ?_
        refine V_getf (T := TX5) (k := 3) (q := 34) hC uX6_isPair_5 rfl (iM5 (by decide)) rfl (by decide) kX6_isPair_f203 rfl dX6_isPair_31 rfl ?_
        refine V_iload_n (k := 1) (q := 35) hC 1 rfl dX6_isPair_34 rfl ?_
        obtain ⟨g6, hf⟩ := gd_some hf
        refine V_iald (n := 8) (q := 36) hC (iM16 (by decide)) rfl g6 h1 dX6_isPair_35 rfl ?_
        refine V_aload_n (k := 0) (q := 37) hC 0 rfl dX6_isPair_36 rfl ?_
        refine V_getf (T := TX6) (k := 2) (q := 40) hC uX6_isPair_6 rfl iD6 rfl (by decide) kX6_isPair_f25 rfl dX6_isPair_37 rfl ?_
        refine V_getf (T := TX5) (k := 3) (q := 43) hC uX6_isPair_5 rfl (iM5 (by decide)) rfl (by decide) kX6_isPair_f203 rfl dX6_isPair_40 rfl ?_
        refine V_iload_n (k := 2) (q := 44) hC 2 rfl dX6_isPair_43 rfl ?_
        obtain ⟨g7, hf⟩ := gd_some hf
        refine V_iald (n := 8) (q := 45) hC (iM16 (by decide)) rfl g7 h2 dX6_isPair_44 rfl ?_
        refine V_icmp_ne (tgt := 52) (q := 48) hC (hs _ _ _) (hs _ _ _) dX6_isPair_45 (by decide) rfl (fun c8 => ?_) (fun c8 => ?_)
        · replace hf := (if_neg c8).symm.trans hf
          refine V_iconst (q := 53) hC dX6_isPair_52 rfl ?_
          exact V_zret hC hr hlk (Or.inl rfl) (re_1 hf) (re_2 hf) hs dX6_isPair_53
        · replace hf := (if_pos c8).symm.trans hf
          refine V_iconst (q := 49) hC dX6_isPair_48 rfl ?_
          refine V_goto (tgt := 53) hC dX6_isPair_49 (by decide) ?_
          exact V_zret hC hr hlk (Or.inr rfl) (re_1 hf) (re_2 hf) hs dX6_isPair_53
/-! X6_areTogether -/
theorem kX6_areTogether_f46 : Cond.fieldLink RX6 46 "BarkNames" "reading" "LBarkNames$Reading;" ∈ wsX6_areTogether := by decide +kernel
theorem uX6_areTogether_6 : ∀ w ∈ u_ws RX6 TX6 10, w ∈ wsX6_areTogether := by decide +kernel
abbrev rmX6_areTogether : Room := { frames := 5, cells := 0, slots := 0, locals := 111 }
set_option maxHeartbeats 4000000 in
set_option maxRecDepth 100000 in
theorem sX6_areTogether (l : Launch) {G : GT} (hG : GI G) {j1 : Nat} {v2 : Int} {v3 : Int} (hj1 : j1 < 28) (h2 : Rg v2) (h3 : Rg v3) {σ : Hp} (hs : RgS σ) {r0 : Int × Hp} (hf : fX6_areTogether σ j1 v2 v3 = some r0) : Cti l G yX6_areTogether wsX6_areTogether rmX6_areTogether [rf G 6 0, rf G 5 j1, iv v2, iv v3] σ r0.1 r0.2 := by
  unfold fX6_areTogether at hf
  refine Cti_start (lv := [(0, rf G 6 0), (1, rf G 5 j1), (2, iv v2), (3, iv v3)]) (ret := (some .boolean)) (by decide +kernel) rfl hG (Nat.le_of_ble_eq_true rfl) rfl (fun p e s m args below meth c hC hr hlk => ?_)
  refine V_aload_n (k := 0) (q := 1) hC 0 rfl dX6_areTogether_0 rfl ?_
  refine V_getf (T := TX6) (k := 6) (q := 4) hC uX6_areTogether_6 rfl iD6 rfl (by decide) kX6_areTogether_f46 rfl dX6_areTogether_1 rfl ?_
  refine V_aload_n (k := 1) (q := 5) hC 1 rfl dX6_areTogether_4 rfl ?_
  obtain ⟨r1, σ2, hc3, hf⟩ := cl_some hf
  refine V_cvv (st := []) (q := 8) (σ0 := σ2) hC (sX2_lookAt l hG hj1 hs hc3) (cwV 1 hC.2.2.2.2.1 gX6_areTogether_X2_lookAt rfl rfl rfl (by decide +kernel) ⟨Nat.le_of_ble_eq_true rfl, Nat.le_of_ble_eq_true rfl⟩) ⟨_, rfl, rfl⟩ iD2 (fun _ => ⟨_, rfl⟩) rfl rfl (Nat.le_of_ble_eq_true rfl) dX6_areTogether_5 rfl ⟨Nat.zero_le _, Nat.zero_le _⟩ (fun hs5 => ?_)
  refine V_aload_n (k := 0) (q := 9) hC 0 rfl dX6_areTogether_8 rfl ?_
  refine V_getf (T := TX6) (k := 6) (q := 12) hC uX6_areTogether_6 rfl iD6 rfl (by decide) kX6_areTogether_f46 rfl dX6_areTogether_9 rfl ?_
  refine V_iload_n (k := 2) (q := 13) hC 2 rfl dX6_areTogether_12 rfl ?_
  refine V_sipush (q := 16) hC (by decide) dX6_areTogether_13 rfl ?_
  obtain ⟨r6, σ7, hc8, hf⟩ := cl_some hf
  refine V_cvi (st := []) (q := 19) (x0 := r6) (σ0 := σ7) hC (sX2_reached l hG h2 (Rg_c rfl) hs5 hc8) (cwV 2 hC.2.2.2.2.1 gX6_areTogether_X2_reached rfl rfl rfl (by decide +kernel) ⟨Nat.le_of_ble_eq_true rfl, Nat.le_of_ble_eq_true rfl⟩) ⟨_, rfl, rfl⟩ iD2 (fun _ => ⟨_, rfl⟩) rfl rfl (Nat.le_of_ble_eq_true rfl) dX6_areTogether_16 rfl ⟨Nat.zero_le _, Nat.zero_le _⟩ (fun hr9 hs10 => ?_)
  refine V_iload_n (k := 3) (q := 20) hC 3 rfl dX6_areTogether_19 rfl ?_
  refine V_csi (st := []) (q := 23) hC (sX6_isIn l hG hr9 h3 hs10) (va_cwS 2 hC.2.2.2.2.1 gX6_areTogether_X6_isIn rfl rfl rfl (by decide +kernel) ⟨Nat.le_of_ble_eq_true rfl, Nat.le_of_ble_eq_true rfl⟩) rfl rfl (Nat.le_of_ble_eq_true rfl) dX6_areTogether_20 rfl ⟨Nat.zero_le _, Nat.zero_le _⟩ (fun hr11 _ => ?_)
  exact V_zret hC hr hlk (zX6_isIn _ _) (re_1 hf) (re_2 hf) hs10 dX6_areTogether_23
/-! X6_together -/
theorem kX6_together_f25 : Cond.fieldLink RX6 25 "BarkNames" "now" "LBarkNames$Wood;" ∈ wsX6_together := by decide +kernel
theorem uX6_together_6 : ∀ w ∈ u_ws RX6 TX6 10, w ∈ wsX6_together := by decide +kernel
theorem kX6_together_c62 : Cond.constant RX6 62 (-1000001) ∈ wsX6_together := by decide +kernel
abbrev rmX6_together : Room := { frames := 6, cells := 0, slots := 0, locals := 134 }
set_option maxHeartbeats 4000000 in
set_option maxRecDepth 100000 in
theorem sX6_together (l : Launch) {G : GT} (hG : GI G) {v1 : Int} {v2 : Int} (h1 : Rg v1) (h2 : Rg v2) {σ : Hp} (hs : RgS σ) {r0 : Int × Hp} (hf : fX6_together σ v1 v2 = some r0) : Cti l G yX6_together wsX6_together rmX6_together [rf G 6 0, iv v1, iv v2] σ r0.1 r0.2 := by
  unfold fX6_together at hf
  refine Cti_start (lv := [(0, rf G 6 0), (1, iv v1), (2, iv v2)]) (ret := (some .int)) (by decide +kernel) rfl hG (Nat.le_of_ble_eq_true rfl) rfl (fun p e s m args below meth c hC hr hlk => ?_)
  refine V_aload_n (k := 0) (q := 1) hC 0 rfl dX6_together_0 rfl ?_
  refine V_iload_n (k := 1) (q := 2) hC 1 rfl dX6_together_1 rfl ?_
  refine V_iload_n (k := 2) (q := 3) hC 2 rfl dX6_together_2 rfl ?_
  obtain ⟨r1, σ2, hc3, hf⟩ := cl_some hf
  refine V_cvi (st := []) (q := 6) (x0 := r1) (σ0 := σ2) hC (sX6_isPair l hG h1 h2 hs hc3) (cwV 2 hC.2.2.2.2.1 gX6_together_X6_isPair rfl rfl rfl (by decide +kernel) ⟨Nat.le_of_ble_eq_true rfl, Nat.le_of_ble_eq_true rfl⟩) ⟨_, rfl, rfl⟩ iD6 (fun _ => ⟨_, rfl⟩) rfl rfl (Nat.le_of_ble_eq_true rfl) dX6_together_3 rfl ⟨Nat.zero_le _, Nat.zero_le _⟩ (fun hr4 hs5 => ?_)
  refine V_if_ne (tgt := 12) (q := 9) hC hr4 dX6_together_6 (by decide) rfl (fun c6 => ?_) (fun c6 => ?_)
  · replace hf := (if_neg c6).symm.trans hf
    refine V_aload_n (k := 0) (q := 13) hC 0 rfl dX6_together_12 rfl ?_
    refine V_aload_n (k := 0) (q := 14) hC 0 rfl dX6_together_13 rfl ?_
    refine V_getf (T := TX6) (k := 2) (q := 17) hC uX6_together_6 rfl iD6 rfl (by decide) kX6_together_f25 rfl dX6_together_14 rfl ?_
    refine V_iload_n (k := 1) (q := 18) hC 1 rfl dX6_together_17 rfl ?_
    refine V_iload_n (k := 2) (q := 19) hC 2 rfl dX6_together_18 rfl ?_
    obtain ⟨r7, σ8, hc9, hf⟩ := cl_some hf
    refine V_cvi (st := []) (q := 22) (x0 := r7) (σ0 := σ8) hC (sX6_areTogether l hG (by decide) h1 h2 hs5 hc9) (cwV 3 hC.2.2.2.2.1 gX6_together_X6_areTogether rfl rfl rfl (by decide +kernel) ⟨Nat.le_of_ble_eq_true rfl, Nat.le_of_ble_eq_true rfl⟩) ⟨_, rfl, rfl⟩ iD6 (fun _ => ⟨_, rfl⟩) rfl rfl (Nat.le_of_ble_eq_true rfl) dX6_together_19 rfl ⟨Nat.zero_le _, Nat.zero_le _⟩ (fun hr10 hs11 => ?_)
    refine V_if_eq (tgt := 29) (q := 25) hC hr10 dX6_together_22 (by decide) rfl (fun c12 => ?_) (fun c12 => ?_)
    · replace hf := (if_pos c12).symm.trans hf
      refine V_iconst (q := 30) hC dX6_together_29 rfl ?_
      exact V_iret hC hr hlk (re_1 hf) (re_2 hf) (Rg_c rfl) hs11 dX6_together_30
    · replace hf := (if_neg c12).symm.trans hf
      refine V_iconst (q := 26) hC dX6_together_25 rfl ?_
      refine V_goto (tgt := 30) hC dX6_together_26 (by decide) ?_
      exact V_iret hC hr hlk (re_1 hf) (re_2 hf) (Rg_c rfl) hs11 dX6_together_30
  · replace hf := (if_pos c6).symm.trans hf
    refine V_ldc (q := 11) (n := (-1000001)) hC (by decide) kX6_together_c62 dX6_together_9 rfl ?_
    exact V_iret hC hr hlk (re_1 hf) (re_2 hf) (Rg_c rfl) hs5 dX6_together_11
/-! X6_isForetold -/
abbrev rmX6_isForetold : Room := { frames := 1, cells := 0, slots := 0, locals := 21 }
set_option maxHeartbeats 4000000 in
set_option maxRecDepth 100000 in
theorem sX6_isForetold (l : Launch) {G : GT} (hG : GI G) {v0 : Int} (h0 : Rg v0) {σ : Hp} (hs : RgS σ) : Cti l G yX6_isForetold wsX6_isForetold rmX6_isForetold [iv v0] σ (fX6_isForetold v0) σ := by
  obtain ⟨x0, hf⟩ : ∃ x, fX6_isForetold v0 = x := ⟨_, rfl⟩
  rw [hf]
  unfold fX6_isForetold at hf
  refine Cti_start (lv := [(0, iv v0)]) (ret := (some .boolean)) (by decide +kernel) rfl hG (Nat.le_of_ble_eq_true rfl) rfl (fun p e s m args below meth c hC hr hlk => ?_)
  refine V_iload_n (k := 0) (q := 1) hC 0 rfl dX6_isForetold_0 rfl ?_
  refine V_bipush (q := 3) hC (by decide) dX6_isForetold_1 rfl ?_
  refine V_csi (st := []) (q := 6) hC (sX6_isBelow l hG h0 (Rg_c rfl) hs) (va_cwS 2 hC.2.2.2.2.1 gX6_isForetold_X6_isBelow rfl rfl rfl (by decide +kernel) ⟨Nat.le_of_ble_eq_true rfl, Nat.le_of_ble_eq_true rfl⟩) rfl rfl (Nat.le_of_ble_eq_true rfl) dX6_isForetold_3 rfl ⟨Nat.zero_le _, Nat.zero_le _⟩ (fun hr1 _ => ?_)
  exact V_zret hC hr hlk (zX6_isBelow _ _) hf rfl hs dX6_isForetold_6
/-! X6_foretell -/
theorem kX6_foretell_f29 : Cond.fieldLink RX6 29 "BarkNames" "tried" "LBarkNames$Wood;" ∈ wsX6_foretell := by decide +kernel
theorem uX6_foretell_6 : ∀ w ∈ u_ws RX6 TX6 10, w ∈ wsX6_foretell := by decide +kernel
theorem kX6_foretell_f25 : Cond.fieldLink RX6 25 "BarkNames" "now" "LBarkNames$Wood;" ∈ wsX6_foretell := by decide +kernel
abbrev rmX6_foretell : Room := { frames := 4, cells := 0, slots := 0, locals := 88 }
set_option maxHeartbeats 4000000 in
set_option maxRecDepth 100000 in
theorem sX6_foretell (l : Launch) {G : GT} (hG : GI G) {v1 : Int} (h1 : Rg v1) {σ : Hp} (hs : RgS σ) {r0 : Int × Hp} (hf : fX6_foretell σ v1 = some r0) : Ctv l G yX6_foretell wsX6_foretell rmX6_foretell [rf G 6 0, iv v1] σ r0.2 := by
  unfold fX6_foretell at hf
  refine Ctv_start (lv := [(0, rf G 6 0), (1, iv v1)]) (ret := none) (by decide +kernel) rfl hG (Nat.le_of_ble_eq_true rfl) rfl (fun p e s m args below meth c hC hr hlk => ?_)
  refine V_aload_n (k := 0) (q := 1) hC 0 rfl dX6_foretell_0 rfl ?_
  refine V_getf (T := TX6) (k := 3) (q := 4) hC uX6_foretell_6 rfl iD6 rfl (by decide) kX6_foretell_f29 rfl dX6_foretell_1 rfl ?_
  refine V_aload_n (k := 0) (q := 5) hC 0 rfl dX6_foretell_4 rfl ?_
  refine V_getf (T := TX6) (k := 2) (q := 8) hC uX6_foretell_6 rfl iD6 rfl (by decide) kX6_foretell_f25 rfl dX6_foretell_5 rfl ?_
  obtain ⟨r1, σ2, hc3, hf⟩ := cl_some hf
  refine V_cvv (st := []) (q := 11) (σ0 := σ2) hC (sX5_become l hG (by decide) (by decide) hs hc3) (cwV 1 hC.2.2.2.2.1 gX6_foretell_X5_become rfl rfl rfl (by decide +kernel) ⟨Nat.le_of_ble_eq_true rfl, Nat.le_of_ble_eq_true rfl⟩) ⟨_, rfl, rfl⟩ (iM5 (by decide)) (fun _ => ⟨_, rfl⟩) rfl rfl (Nat.le_of_ble_eq_true rfl) dX6_foretell_8 rfl ⟨Nat.zero_le _, Nat.zero_le _⟩ (fun hs5 => ?_)
  refine V_aload_n (k := 0) (q := 12) hC 0 rfl dX6_foretell_11 rfl ?_
  refine V_getf (T := TX6) (k := 3) (q := 15) hC uX6_foretell_6 rfl iD6 rfl (by decide) kX6_foretell_f29 rfl dX6_foretell_12 rfl ?_
  refine V_iload_n (k := 1) (q := 16) hC 1 rfl dX6_foretell_15 rfl ?_
  obtain ⟨r6, σ7, hc8, hf⟩ := cl_some hf
  refine V_cvv (st := []) (q := 19) (σ0 := σ7) hC (sX5_passYears l hG (by decide) h1 hs5 hc8) (cwV 1 hC.2.2.2.2.1 gX6_foretell_X5_passYears rfl rfl rfl (by decide +kernel) ⟨Nat.le_of_ble_eq_true rfl, Nat.le_of_ble_eq_true rfl⟩) ⟨_, rfl, rfl⟩ (iM5 (by decide)) (fun _ => ⟨_, rfl⟩) rfl rfl (Nat.le_of_ble_eq_true rfl) dX6_foretell_16 rfl ⟨Nat.zero_le _, Nat.zero_le _⟩ (fun hs10 => ?_)
  exact V_vret hC hr hlk (re_2 hf) hs10 dX6_foretell_19
/-! X6_girth -/
theorem kX6_girth_f25 : Cond.fieldLink RX6 25 "BarkNames" "now" "LBarkNames$Wood;" ∈ wsX6_girth := by decide +kernel
theorem uX6_girth_6 : ∀ w ∈ u_ws RX6 TX6 10, w ∈ wsX6_girth := by decide +kernel
theorem kX6_girth_c62 : Cond.constant RX6 62 (-1000001) ∈ wsX6_girth := by decide +kernel
theorem kX6_girth_f29 : Cond.fieldLink RX6 29 "BarkNames" "tried" "LBarkNames$Wood;" ∈ wsX6_girth := by decide +kernel
theorem kX6_girth_f191 : Cond.fieldLink RX6 191 "BarkNames$Wood" "girthOf" "[I" ∈ wsX6_girth := by decide +kernel
theorem uX6_girth_5 : ∀ w ∈ u_ws RX5 TX5 12, w ∈ wsX6_girth := by decide +kernel
abbrev rmX6_girth : Room := { frames := 5, cells := 0, slots := 0, locals := 109 }
set_option maxHeartbeats 4000000 in
set_option maxRecDepth 100000 in
theorem sX6_girth (l : Launch) {G : GT} (hG : GI G) {v1 : Int} {v2 : Int} (h1 : Rg v1) (h2 : Rg v2) {σ : Hp} (hs : RgS σ) {r0 : Int × Hp} (hf : fX6_girth σ v1 v2 = some r0) : Cti l G yX6_girth wsX6_girth rmX6_girth [rf G 6 0, iv v1, iv v2] σ r0.1 r0.2 := by
  unfold fX6_girth at hf
  refine Cti_start (lv := [(0, rf G 6 0), (1, iv v1), (2, iv v2)]) (ret := (some .int)) (by decide +kernel) rfl hG (Nat.le_of_ble_eq_true rfl) rfl (fun p e s m args below meth c hC hr hlk => ?_)
  refine V_aload_n (k := 0) (q := 1) hC 0 rfl dX6_girth_0 rfl ?_
  refine V_getf (T := TX6) (k := 2) (q := 4) hC uX6_girth_6 rfl iD6 rfl (by decide) kX6_girth_f25 rfl dX6_girth_1 rfl ?_
  refine V_iload_n (k := 1) (q := 5) hC 1 rfl dX6_girth_4 rfl ?_
  refine V_cvi (st := []) (q := 8) hC (sX5_hasTree l hG (by decide) h1 hs) (cwV 1 hC.2.2.2.2.1 gX6_girth_X5_hasTree rfl rfl rfl (by decide +kernel) ⟨Nat.le_of_ble_eq_true rfl, Nat.le_of_ble_eq_true rfl⟩) ⟨_, rfl, rfl⟩ (iM5 (by decide)) (fun _ => ⟨_, rfl⟩) rfl rfl (Nat.le_of_ble_eq_true rfl) dX6_girth_5 rfl ⟨Nat.zero_le _, Nat.zero_le _⟩ (fun hr1 _ => ?_)
  refine V_if_eq (tgt := 18) (q := 11) hC hr1 dX6_girth_8 (by decide) rfl (fun c2 => ?_) (fun c2 => ?_)
  · replace hf := (if_pos c2).symm.trans hf
    refine V_ldc (q := 20) (n := (-1000001)) hC (by decide) kX6_girth_c62 dX6_girth_18 rfl ?_
    exact V_iret hC hr hlk (re_1 hf) (re_2 hf) (Rg_c rfl) hs dX6_girth_20
  · replace hf := (if_neg c2).symm.trans hf
    refine V_iload_n (k := 2) (q := 12) hC 2 rfl dX6_girth_11 rfl ?_
    refine V_csi (st := []) (q := 15) hC (sX6_isForetold l hG h2 hs) (va_cwS 1 hC.2.2.2.2.1 gX6_girth_X6_isForetold rfl rfl rfl (by decide +kernel) ⟨Nat.le_of_ble_eq_true rfl, Nat.le_of_ble_eq_true rfl⟩) rfl rfl (Nat.le_of_ble_eq_true rfl) dX6_girth_12 rfl ⟨Nat.zero_le _, Nat.zero_le _⟩ (fun hr3 _ => ?_)
    refine V_if_ne (tgt := 21) (q := 18) hC hr3 dX6_girth_15 (by decide) rfl (fun c4 => ?_) (fun c4 => ?_)
    · replace hf := (if_neg c4).symm.trans hf
      refine V_aload_n (k := 0) (q := 22) hC 0 rfl dX6_girth_21 rfl ?_
      refine V_iload_n (k := 2) (q := 23) hC 2 rfl dX6_girth_22 rfl ?_
      obtain ⟨r5, σ6, hc7, hf⟩ := cl_some hf
      refine V_cvv (st := []) (q := 26) (σ0 := σ6) hC (sX6_foretell l hG h2 hs hc7) (cwV 1 hC.2.2.2.2.1 gX6_girth_X6_foretell rfl rfl rfl (by decide +kernel) ⟨Nat.le_of_ble_eq_true rfl, Nat.le_of_ble_eq_true rfl⟩) ⟨_, rfl, rfl⟩ iD6 (fun _ => ⟨_, rfl⟩) rfl rfl (Nat.le_of_ble_eq_true rfl) dX6_girth_23 rfl ⟨Nat.zero_le _, Nat.zero_le _⟩ (fun hs9 => ?_)
      refine V_aload_n (k := 0) (q := 27) hC 0 rfl dX6_girth_26 rfl ?_
      refine V_getf (T := TX6) (k := 3) (q := 30) hC uX6_girth_6 rfl iD6 rfl (by decide) kX6_girth_f29 rfl dX6_girth_27 rfl ?_
      refine V_getf (T := TX5) (k := 1) (q := 33) hC uX6_girth_5 rfl (iM5 (by decide)) rfl (by decide) kX6_girth_f191 rfl dX6_girth_30 rfl ?_
      refine V_iload_n (k := 1) (q := 34) hC 1 rfl dX6_girth_33 rfl ?_
      obtain ⟨g10, hf⟩ := gd_some hf
      refine V_iald (n := 4) (q := 35) hC (iM14 (by decide)) rfl g10 h1 dX6_girth_34 rfl ?_
      exact V_iret hC hr hlk (re_1 hf) (re_2 hf) (hs9 _ _ _) hs9 dX6_girth_35
    · replace hf := (if_pos c4).symm.trans hf
      refine V_ldc (q := 20) (n := (-1000001)) hC (by decide) kX6_girth_c62 dX6_girth_18 rfl ?_
      exact V_iret hC hr hlk (re_1 hf) (re_2 hf) (Rg_c rfl) hs dX6_girth_20
/-! X6_left -/
theorem kX6_left_f25 : Cond.fieldLink RX6 25 "BarkNames" "now" "LBarkNames$Wood;" ∈ wsX6_left := by decide +kernel
theorem uX6_left_6 : ∀ w ∈ u_ws RX6 TX6 10, w ∈ wsX6_left := by decide +kernel
theorem kX6_left_f137 : Cond.fieldLink RX6 137 "BarkNames$Wood" "told" "Z" ∈ wsX6_left := by decide +kernel
theorem uX6_left_5 : ∀ w ∈ u_ws RX5 TX5 12, w ∈ wsX6_left := by decide +kernel
theorem kX6_left_f29 : Cond.fieldLink RX6 29 "BarkNames" "tried" "LBarkNames$Wood;" ∈ wsX6_left := by decide +kernel
theorem kX6_left_c62 : Cond.constant RX6 62 (-1000001) ∈ wsX6_left := by decide +kernel
theorem kX6_left_c140 : Cond.constant RX6 140 (-1000002) ∈ wsX6_left := by decide +kernel
abbrev rmX6_left : Room := { frames := 5, cells := 0, slots := 0, locals := 109 }
set_option maxHeartbeats 4000000 in
set_option maxRecDepth 100000 in
theorem sX6_left (l : Launch) {G : GT} (hG : GI G) {v1 : Int} (h1 : Rg v1) {σ : Hp} (hs : RgS σ) {r0 : Int × Hp} (hf : fX6_left σ v1 = some r0) : Cti l G yX6_left wsX6_left rmX6_left [rf G 6 0, iv v1] σ r0.1 r0.2 := by
  unfold fX6_left at hf
  refine Cti_start (lv := [(0, rf G 6 0), (1, iv v1)]) (ret := (some .int)) (by decide +kernel) rfl hG (Nat.le_of_ble_eq_true rfl) rfl (fun p e s m args below meth c hC hr hlk => ?_)
  refine V_aload_n (k := 0) (q := 1) hC 0 rfl dX6_left_0 rfl ?_
  refine V_getf (T := TX6) (k := 2) (q := 4) hC uX6_left_6 rfl iD6 rfl (by decide) kX6_left_f25 rfl dX6_left_1 rfl ?_
  refine V_getf (T := TX5) (k := 7) (q := 7) hC uX6_left_5 rfl (iM5 (by decide)) rfl (by decide) kX6_left_f137 rfl dX6_left_4 rfl ?_
  refine V_if_ne (tgt := 13) (q := 10) hC (hs _ _ _) dX6_left_7 (by decide) rfl (fun c1 => ?_) (fun c1 => ?_)
  · replace hf := (if_neg c1).symm.trans hf
    refine V_iload_n (k := 1) (q := 14) hC 1 rfl dX6_left_13 rfl ?_
    refine V_csi (st := []) (q := 17) hC (sX6_isForetold l hG h1 hs) (va_cwS 1 hC.2.2.2.2.1 gX6_left_X6_isForetold rfl rfl rfl (by decide +kernel) ⟨Nat.le_of_ble_eq_true rfl, Nat.le_of_ble_eq_true rfl⟩) rfl rfl (Nat.le_of_ble_eq_true rfl) dX6_left_14 rfl ⟨Nat.zero_le _, Nat.zero_le _⟩ (fun hr2 _ => ?_)
    refine V_if_ne (tgt := 23) (q := 20) hC hr2 dX6_left_17 (by decide) rfl (fun c3 => ?_) (fun c3 => ?_)
    · replace hf := (if_neg c3).symm.trans hf
      refine V_aload_n (k := 0) (q := 24) hC 0 rfl dX6_left_23 rfl ?_
      refine V_iload_n (k := 1) (q := 25) hC 1 rfl dX6_left_24 rfl ?_
      obtain ⟨r4, σ5, hc6, hf⟩ := cl_some hf
      refine V_cvv (st := []) (q := 28) (σ0 := σ5) hC (sX6_foretell l hG h1 hs hc6) (cwV 1 hC.2.2.2.2.1 gX6_left_X6_foretell rfl rfl rfl (by decide +kernel) ⟨Nat.le_of_ble_eq_true rfl, Nat.le_of_ble_eq_true rfl⟩) ⟨_, rfl, rfl⟩ iD6 (fun _ => ⟨_, rfl⟩) rfl rfl (Nat.le_of_ble_eq_true rfl) dX6_left_25 rfl ⟨Nat.zero_le _, Nat.zero_le _⟩ (fun hs8 => ?_)
      refine V_aload_n (k := 0) (q := 29) hC 0 rfl dX6_left_28 rfl ?_
      refine V_getf (T := TX6) (k := 3) (q := 32) hC uX6_left_6 rfl iD6 rfl (by decide) kX6_left_f29 rfl dX6_left_29 rfl ?_
      obtain ⟨r9, σ10, hc11, hf⟩ := cl_some hf
      refine V_cvi (st := []) (q := 35) (x0 := r9) (σ0 := σ10) hC (sX5_readable l hG (by decide) hs8 hc11) (cwV 0 hC.2.2.2.2.1 gX6_left_X5_readable rfl rfl rfl (by decide +kernel) ⟨Nat.le_of_ble_eq_true rfl, Nat.le_of_ble_eq_true rfl⟩) ⟨_, rfl, rfl⟩ (iM5 (by decide)) (fun _ => ⟨_, rfl⟩) rfl rfl (Nat.le_of_ble_eq_true rfl) dX6_left_32 rfl ⟨Nat.zero_le _, Nat.zero_le _⟩ (fun hr12 hs13 => ?_)
      exact V_iret hC hr hlk (re_1 hf) (re_2 hf) hr12 hs13 dX6_left_35
    · replace hf := (if_pos c3).symm.trans hf
      refine V_ldc (q := 22) (n := (-1000001)) hC (by decide) kX6_left_c62 dX6_left_20 rfl ?_
      exact V_iret hC hr hlk (re_1 hf) (re_2 hf) (Rg_c rfl) hs dX6_left_22
  · replace hf := (if_pos c1).symm.trans hf
    refine V_ldc (q := 12) (n := (-1000002)) hC (by decide) kX6_left_c140 dX6_left_10 rfl ?_
    exact V_iret hC hr hlk (re_1 hf) (re_2 hf) (Rg_c rfl) hs dX6_left_12
/-! X6_free -/
theorem kX6_free_f29 : Cond.fieldLink RX6 29 "BarkNames" "tried" "LBarkNames$Wood;" ∈ wsX6_free := by decide +kernel
theorem uX6_free_6 : ∀ w ∈ u_ws RX6 TX6 10, w ∈ wsX6_free := by decide +kernel
theorem kX6_free_f25 : Cond.fieldLink RX6 25 "BarkNames" "now" "LBarkNames$Wood;" ∈ wsX6_free := by decide +kernel
theorem kX6_free_c62 : Cond.constant RX6 62 (-1000001) ∈ wsX6_free := by decide +kernel
theorem kX6_free_c219 : Cond.constant RX6 219 (-1000000) ∈ wsX6_free := by decide +kernel
abbrev rmX6_free : Room := { frames := 6, cells := 0, slots := 0, locals := 134 }
set_option maxHeartbeats 4000000 in
set_option maxRecDepth 100000 in
theorem tlX6_free_25 {p : Program} {l : Launch} {e : Env} {s : State} {m : MethodId} {args : Array Value} {below : List Frame} {meth : Method} {c : Code} {G : GT} (hG : GI G) (hC : CX p s m args c cX6_free 4 RX6 wsX6_free G (AA G)) (hr : meth.sig.returnType = (some .int)) (hlk : meth.locks = false) {r0 : Int × Hp} : ∀ n : Nat, (∀ {σ : Hp} (hs : RgS σ) {v1 : Int} {v2 : Int} {v3 : Int} (h1 : Rg v1) (h2 : Rg v2) (h3 : Rg v3) (hf : lX6_free_25 n σ v1 v2 v3 = some r0), VV p l e (headSpec wsX6_free rmX6_free).room s m args below meth c (MQ below (QI G r0.1 r0.2) args s 0 0 (AA G)) G (AA G) 0 0 4 σ 25 [(0, rf G 6 0), (1, iv v1), (2, iv v2), (3, iv v3)] []) := by
  intro n
  induction n with
  | zero =>
    exact by intro σ hs v1 v2 v3 h1 h2 h3 hf; exact absurd (show (none : Option (Int × Hp)) = some r0 from hf) (fun z => by cases z)
  | succ n ih =>
    intro σ hs v1 v2 v3 h1 h2 h3 hf
    replace hf := (lX6_free_25_e0 n σ v1 v2 v3).symm.trans hf
    refine V_iload_n (k := 3) (q := 26) hC 3 rfl dX6_free_25 rfl ?_
    refine V_bipush (q := 28) hC (by decide) dX6_free_26 rfl ?_
    refine V_icmp_gt (tgt := 59) (q := 31) hC h3 (Rg_c rfl) dX6_free_28 (by decide) rfl (fun c12 => ?_) (fun c12 => ?_)
    · replace hf := (if_pos c12).symm.trans hf
      refine V_ldc (q := 61) (n := (-1000000)) hC (by decide) kX6_free_c219 dX6_free_59 rfl ?_
      exact V_iret hC hr hlk (re_1 hf) (re_2 hf) (Rg_c rfl) hs dX6_free_61
    · replace hf := (if_neg c12).symm.trans hf
      refine V_aload_n (k := 0) (q := 32) hC 0 rfl dX6_free_31 rfl ?_
      refine V_aload_n (k := 0) (q := 33) hC 0 rfl dX6_free_32 rfl ?_
      refine V_getf (T := TX6) (k := 3) (q := 36) hC uX6_free_6 rfl iD6 rfl (by decide) kX6_free_f29 rfl dX6_free_33 rfl ?_
      refine V_iload_n (k := 1) (q := 37) hC 1 rfl dX6_free_36 rfl ?_
      refine V_iload_n (k := 2) (q := 38) hC 2 rfl dX6_free_37 rfl ?_
      obtain ⟨r13, σ14, hc15, hf⟩ := cl_some hf
      refine V_cvi (st := []) (q := 41) (x0 := r13) (σ0 := σ14) hC (sX6_areTogether l hG (by decide) h1 h2 hs hc15) (cwV 3 hC.2.2.2.2.1 gX6_free_X6_areTogether rfl rfl rfl (by decide +kernel) ⟨Nat.le_of_ble_eq_true rfl, Nat.le_of_ble_eq_true rfl⟩) ⟨_, rfl, rfl⟩ iD6 (fun _ => ⟨_, rfl⟩) rfl rfl (Nat.le_of_ble_eq_true rfl) dX6_free_38 rfl ⟨Nat.zero_le _, Nat.zero_le _⟩ (fun hr16 hs17 => ?_)
      refine V_if_ne (tgt := 46) (q := 44) hC hr16 dX6_free_41 (by decide) rfl (fun c18 => ?_) (fun c18 => ?_)
      · replace hf := (if_neg c18).symm.trans hf
        refine V_aload_n (k := 0) (q := 47) hC 0 rfl dX6_free_46 rfl ?_
        refine V_getf (T := TX6) (k := 3) (q := 50) hC uX6_free_6 rfl iD6 rfl (by decide) kX6_free_f29 rfl dX6_free_47 rfl ?_
        obtain ⟨r19, σ20, hc21, hf⟩ := cl_some hf
        refine V_cvv (st := []) (q := 53) (σ0 := σ20) hC (sX5_passYear l hG (by decide) hs17 hc21) (cwV 0 hC.2.2.2.2.1 gX6_free_X5_passYear rfl rfl rfl (by decide +kernel) ⟨Nat.le_of_ble_eq_true rfl, Nat.le_of_ble_eq_true rfl⟩) ⟨_, rfl, rfl⟩ (iM5 (by decide)) (fun _ => ⟨_, rfl⟩) rfl rfl (Nat.le_of_ble_eq_true rfl) dX6_free_50 rfl ⟨Nat.zero_le _, Nat.zero_le _⟩ (fun hs23 => ?_)
        refine V_iinc (i := 3) (lv' := [(0, rf G 6 0), (1, iv v1), (2, iv v2), (3, iv (wr (v3 + 1)))]) (q := 56) hC 3 rfl [1, 2, 3, 0] (by decide) rfl dX6_free_53 rfl ?_
        refine V_goto (tgt := 25) hC dX6_free_56 (by decide) ?_
        refine V_lsub [0, 1, 2, 3] rfl ?_
        exact ih hs23 h1 h2 (Rg_wr _) hf
      · replace hf := (if_pos c18).symm.trans hf
        refine V_iload_n (k := 3) (q := 45) hC 3 rfl dX6_free_44 rfl ?_
        exact V_iret hC hr hlk (re_1 hf) (re_2 hf) h3 hs17 dX6_free_45
set_option maxHeartbeats 4000000 in
set_option maxRecDepth 100000 in
theorem sX6_free (l : Launch) {G : GT} (hG : GI G) {v1 : Int} {v2 : Int} (h1 : Rg v1) (h2 : Rg v2) {σ : Hp} (hs : RgS σ) {r0 : Int × Hp} (hf : fX6_free σ v1 v2 = some r0) : Cti l G yX6_free wsX6_free rmX6_free [rf G 6 0, iv v1, iv v2] σ r0.1 r0.2 := by
  unfold fX6_free at hf
  refine Cti_start (lv := [(0, rf G 6 0), (1, iv v1), (2, iv v2)]) (ret := (some .int)) (by decide +kernel) rfl hG (Nat.le_of_ble_eq_true rfl) rfl (fun p e s m args below meth c hC hr hlk => ?_)
  refine V_aload_n (k := 0) (q := 1) hC 0 rfl dX6_free_0 rfl ?_
  refine V_iload_n (k := 1) (q := 2) hC 1 rfl dX6_free_1 rfl ?_
  refine V_iload_n (k := 2) (q := 3) hC 2 rfl dX6_free_2 rfl ?_
  obtain ⟨r1, σ2, hc3, hf⟩ := cl_some hf
  refine V_cvi (st := []) (q := 6) (x0 := r1) (σ0 := σ2) hC (sX6_isPair l hG h1 h2 hs hc3) (cwV 2 hC.2.2.2.2.1 gX6_free_X6_isPair rfl rfl rfl (by decide +kernel) ⟨Nat.le_of_ble_eq_true rfl, Nat.le_of_ble_eq_true rfl⟩) ⟨_, rfl, rfl⟩ iD6 (fun _ => ⟨_, rfl⟩) rfl rfl (Nat.le_of_ble_eq_true rfl) dX6_free_3 rfl ⟨Nat.zero_le _, Nat.zero_le _⟩ (fun hr4 hs5 => ?_)
  refine V_if_ne (tgt := 12) (q := 9) hC hr4 dX6_free_6 (by decide) rfl (fun c6 => ?_) (fun c6 => ?_)
  · replace hf := (if_neg c6).symm.trans hf
    refine V_aload_n (k := 0) (q := 13) hC 0 rfl dX6_free_12 rfl ?_
    refine V_getf (T := TX6) (k := 3) (q := 16) hC uX6_free_6 rfl iD6 rfl (by decide) kX6_free_f29 rfl dX6_free_13 rfl ?_
    refine V_aload_n (k := 0) (q := 17) hC 0 rfl dX6_free_16 rfl ?_
    refine V_getf (T := TX6) (k := 2) (q := 20) hC uX6_free_6 rfl iD6 rfl (by decide) kX6_free_f25 rfl dX6_free_17 rfl ?_
    obtain ⟨r7, σ8, hc9, hf⟩ := cl_some hf
    refine V_cvv (st := []) (q := 23) (σ0 := σ8) hC (sX5_become l hG (by decide) (by decide) hs5 hc9) (cwV 1 hC.2.2.2.2.1 gX6_free_X5_become rfl rfl rfl (by decide +kernel) ⟨Nat.le_of_ble_eq_true rfl, Nat.le_of_ble_eq_true rfl⟩) ⟨_, rfl, rfl⟩ (iM5 (by decide)) (fun _ => ⟨_, rfl⟩) rfl rfl (Nat.le_of_ble_eq_true rfl) dX6_free_20 rfl ⟨Nat.zero_le _, Nat.zero_le _⟩ (fun hs11 => ?_)
    refine V_iconst (q := 24) hC dX6_free_23 rfl ?_
    refine V_istore_n (k := 3) (i := 3) (lv' := [(0, rf G 6 0), (1, iv v1), (2, iv v2), (3, iv 0)]) (q := 25) hC [1, 2, 3, 0] rfl (by decide) rfl dX6_free_24 rfl ?_
    refine V_lsub [0, 1, 2, 3] rfl ?_
    exact (tlX6_free_25 hG hC hr hlk FU) hs11 h1 h2 (Rg_c rfl) hf
  · replace hf := (if_pos c6).symm.trans hf
    refine V_ldc (q := 11) (n := (-1000001)) hC (by decide) kX6_free_c62 dX6_free_9 rfl ?_
    exact V_iret hC hr hlk (re_1 hf) (re_2 hf) (Rg_c rfl) hs5 dX6_free_11
/-! X6_treesOfPairsReadAsOne -/
theorem kX6_treesOfPairsReadAsOne_f29 : Cond.fieldLink RX6 29 "BarkNames" "tried" "LBarkNames$Wood;" ∈ wsX6_treesOfPairsReadAsOne := by decide +kernel
theorem uX6_treesOfPairsReadAsOne_6 : ∀ w ∈ u_ws RX6 TX6 10, w ∈ wsX6_treesOfPairsReadAsOne := by decide +kernel
theorem kX6_treesOfPairsReadAsOne_f233 : Cond.fieldLink RX6 233 "BarkNames$Wood" "treeCount" "I" ∈ wsX6_treesOfPairsReadAsOne := by decide +kernel
theorem uX6_treesOfPairsReadAsOne_5 : ∀ w ∈ u_ws RX5 TX5 12, w ∈ wsX6_treesOfPairsReadAsOne := by decide +kernel
abbrev rmX6_treesOfPairsReadAsOne : Room := { frames := 4, cells := 0, slots := 0, locals := 88 }
set_option maxHeartbeats 4000000 in
set_option maxRecDepth 100000 in
theorem tlX6_treesOfPairsReadAsOne_4 {p : Program} {l : Launch} {e : Env} {s : State} {m : MethodId} {args : Array Value} {below : List Frame} {meth : Method} {c : Code} {G : GT} (hG : GI G) (hC : CX p s m args c cX6_treesOfPairsReadAsOne 3 RX6 wsX6_treesOfPairsReadAsOne G (AA G)) (hr : meth.sig.returnType = (some .int)) (hlk : meth.locks = false) {r0 : Int × Hp} : ∀ n : Nat, (∀ {σ : Hp} (hs : RgS σ) {v1 : Int} {v2 : Int} (h1 : Rg v1) (h2 : Rg v2) (hf : lX6_treesOfPairsReadAsOne_4 n σ v1 v2 = some r0), VV p l e (headSpec wsX6_treesOfPairsReadAsOne rmX6_treesOfPairsReadAsOne).room s m args below meth c (MQ below (QI G r0.1 r0.2) args s 0 0 (AA G)) G (AA G) 0 0 3 σ 4 [(0, rf G 6 0), (1, iv v1), (2, iv v2)] []) := by
  intro n
  induction n with
  | zero =>
    exact by intro σ hs v1 v2 h1 h2 hf; exact absurd (show (none : Option (Int × Hp)) = some r0 from hf) (fun z => by cases z)
  | succ n ih =>
    intro σ hs v1 v2 h1 h2 hf
    replace hf := (lX6_treesOfPairsReadAsOne_4_e0 n σ v1 v2).symm.trans hf
    refine V_iload_n (k := 2) (q := 5) hC 2 rfl dX6_treesOfPairsReadAsOne_4 rfl ?_
    refine V_aload_n (k := 0) (q := 6) hC 0 rfl dX6_treesOfPairsReadAsOne_5 rfl ?_
    refine V_getf (T := TX6) (k := 3) (q := 9) hC uX6_treesOfPairsReadAsOne_6 rfl iD6 rfl (by decide) kX6_treesOfPairsReadAsOne_f29 rfl dX6_treesOfPairsReadAsOne_6 rfl ?_
    refine V_getf (T := TX5) (k := 10) (q := 12) hC uX6_treesOfPairsReadAsOne_5 rfl (iM5 (by decide)) rfl (by decide) kX6_treesOfPairsReadAsOne_f233 rfl dX6_treesOfPairsReadAsOne_9 rfl ?_
    refine V_icmp_ge (tgt := 45) (q := 15) hC h2 (hs _ _ _) dX6_treesOfPairsReadAsOne_12 (by decide) rfl (fun c1 => ?_) (fun c1 => ?_)
    · replace hf := (if_pos c1).symm.trans hf
      refine V_iload_n (k := 1) (q := 46) hC 1 rfl dX6_treesOfPairsReadAsOne_45 rfl ?_
      exact V_iret hC hr hlk (re_1 hf) (re_2 hf) h1 hs dX6_treesOfPairsReadAsOne_46
    · replace hf := (if_neg c1).symm.trans hf
      refine V_aload_n (k := 0) (q := 16) hC 0 rfl dX6_treesOfPairsReadAsOne_15 rfl ?_
      refine V_getf (T := TX6) (k := 3) (q := 19) hC uX6_treesOfPairsReadAsOne_6 rfl iD6 rfl (by decide) kX6_treesOfPairsReadAsOne_f29 rfl dX6_treesOfPairsReadAsOne_16 rfl ?_
      refine V_iconst (q := 20) hC dX6_treesOfPairsReadAsOne_19 rfl ?_
      refine V_iload_n (k := 2) (q := 21) hC 2 rfl dX6_treesOfPairsReadAsOne_20 rfl ?_
      refine V_imul (q := 22) hC dX6_treesOfPairsReadAsOne_21 rfl ?_
      refine V_iconst (q := 23) hC dX6_treesOfPairsReadAsOne_22 rfl ?_
      refine V_iload_n (k := 2) (q := 24) hC 2 rfl dX6_treesOfPairsReadAsOne_23 rfl ?_
      refine V_imul (q := 25) hC dX6_treesOfPairsReadAsOne_24 rfl ?_
      refine V_iconst (q := 26) hC dX6_treesOfPairsReadAsOne_25 rfl ?_
      refine V_iadd (q := 27) hC dX6_treesOfPairsReadAsOne_26 rfl ?_
      obtain ⟨r2, σ3, hc4, hf⟩ := cl_some hf
      refine V_cvi (st := []) (q := 30) (x0 := r2) (σ0 := σ3) hC (sX5_readAsOne l hG (by decide) (Rg_wr _) (Rg_wr _) hs hc4) (cwV 2 hC.2.2.2.2.1 gX6_treesOfPairsReadAsOne_X5_readAsOne rfl rfl rfl (by decide +kernel) ⟨Nat.le_of_ble_eq_true rfl, Nat.le_of_ble_eq_true rfl⟩) ⟨_, rfl, rfl⟩ (iM5 (by decide)) (fun _ => ⟨_, rfl⟩) rfl rfl (Nat.le_of_ble_eq_true rfl) dX6_treesOfPairsReadAsOne_27 rfl ⟨Nat.zero_le _, Nat.zero_le _⟩ (fun hr5 hs6 => ?_)
      refine V_if_eq (tgt := 39) (q := 33) hC hr5 dX6_treesOfPairsReadAsOne_30 (by decide) rfl (fun c7 => ?_) (fun c7 => ?_)
      · replace hf := (if_pos c7).symm.trans hf
        refine V_iinc (i := 2) (lv' := [(0, rf G 6 0), (1, iv v1), (2, iv (wr (v2 + 1)))]) (q := 42) hC 2 rfl [1, 2, 0] (by decide) rfl dX6_treesOfPairsReadAsOne_39 rfl ?_
        refine V_goto (tgt := 4) hC dX6_treesOfPairsReadAsOne_42 (by decide) ?_
        refine V_lsub [0, 1, 2] rfl ?_
        exact ih hs6 h1 (Rg_wr _) hf
      · replace hf := (if_neg c7).symm.trans hf
        refine V_iload_n (k := 1) (q := 34) hC 1 rfl dX6_treesOfPairsReadAsOne_33 rfl ?_
        refine V_iconst (q := 35) hC dX6_treesOfPairsReadAsOne_34 rfl ?_
        refine V_iload_n (k := 2) (q := 36) hC 2 rfl dX6_treesOfPairsReadAsOne_35 rfl ?_
        refine V_ishl (q := 37) hC dX6_treesOfPairsReadAsOne_36 rfl ?_
        refine V_ior (q := 38) hC dX6_treesOfPairsReadAsOne_37 rfl ?_
        refine V_istore_n (k := 1) (i := 1) (lv' := [(0, rf G 6 0), (1, iv (qor v1 (qshl 1 v2))), (2, iv v2)]) (q := 39) hC [1, 0, 2] rfl (by decide) rfl dX6_treesOfPairsReadAsOne_38 rfl ?_
        refine V_iinc (i := 2) (lv' := [(0, rf G 6 0), (1, iv (qor v1 (qshl 1 v2))), (2, iv (wr (v2 + 1)))]) (q := 42) hC 2 rfl [1, 2, 0] (by decide) rfl dX6_treesOfPairsReadAsOne_39 rfl ?_
        refine V_goto (tgt := 4) hC dX6_treesOfPairsReadAsOne_42 (by decide) ?_
        refine V_lsub [0, 1, 2] rfl ?_
        exact ih hs6 (Rg_qor _ _) (Rg_wr _) hf
set_option maxHeartbeats 4000000 in
set_option maxRecDepth 100000 in
theorem sX6_treesOfPairsReadAsOne (l : Launch) {G : GT} (hG : GI G) {σ : Hp} (hs : RgS σ) {r0 : Int × Hp} (hf : fX6_treesOfPairsReadAsOne σ = some r0) : Cti l G yX6_treesOfPairsReadAsOne wsX6_treesOfPairsReadAsOne rmX6_treesOfPairsReadAsOne [rf G 6 0] σ r0.1 r0.2 := by
  unfold fX6_treesOfPairsReadAsOne at hf
  refine Cti_start (lv := [(0, rf G 6 0)]) (ret := (some .int)) (by decide +kernel) rfl hG (Nat.le_of_ble_eq_true rfl) rfl (fun p e s m args below meth c hC hr hlk => ?_)
  refine V_iconst (q := 1) hC dX6_treesOfPairsReadAsOne_0 rfl ?_
  refine V_istore_n (k := 1) (i := 1) (lv' := [(0, rf G 6 0), (1, iv 0)]) (q := 2) hC [1, 0] rfl (by decide) rfl dX6_treesOfPairsReadAsOne_1 rfl ?_
  refine V_iconst (q := 3) hC dX6_treesOfPairsReadAsOne_2 rfl ?_
  refine V_istore_n (k := 2) (i := 2) (lv' := [(0, rf G 6 0), (1, iv 0), (2, iv 0)]) (q := 4) hC [1, 2, 0] rfl (by decide) rfl dX6_treesOfPairsReadAsOne_3 rfl ?_
  refine V_lsub [0, 1, 2] rfl ?_
  exact (tlX6_treesOfPairsReadAsOne_4 hG hC hr hlk FU) hs (Rg_c rfl) (Rg_c rfl) hf
/-! X6_holds -/
theorem kX6_holds_f25 : Cond.fieldLink RX6 25 "BarkNames" "now" "LBarkNames$Wood;" ∈ wsX6_holds := by decide +kernel
theorem uX6_holds_6 : ∀ w ∈ u_ws RX6 TX6 10, w ∈ wsX6_holds := by decide +kernel
theorem kX6_holds_f137 : Cond.fieldLink RX6 137 "BarkNames$Wood" "told" "Z" ∈ wsX6_holds := by decide +kernel
theorem uX6_holds_5 : ∀ w ∈ u_ws RX5 TX5 12, w ∈ wsX6_holds := by decide +kernel
theorem kX6_holds_c62 : Cond.constant RX6 62 (-1000001) ∈ wsX6_holds := by decide +kernel
theorem kX6_holds_f29 : Cond.fieldLink RX6 29 "BarkNames" "tried" "LBarkNames$Wood;" ∈ wsX6_holds := by decide +kernel
theorem kX6_holds_f134 : Cond.fieldLink RX6 134 "BarkNames$Wood" "cutCount" "I" ∈ wsX6_holds := by decide +kernel
theorem kX6_holds_c140 : Cond.constant RX6 140 (-1000002) ∈ wsX6_holds := by decide +kernel
theorem kX6_holds_f233 : Cond.fieldLink RX6 233 "BarkNames$Wood" "treeCount" "I" ∈ wsX6_holds := by decide +kernel
abbrev rmX6_holds : Room := { frames := 5, cells := 0, slots := 0, locals := 110 }
set_option maxHeartbeats 4000000 in
set_option maxRecDepth 100000 in
theorem tlX6_holds_114 {p : Program} {l : Launch} {e : Env} {s : State} {m : MethodId} {args : Array Value} {below : List Frame} {meth : Method} {c : Code} {G : GT} (hG : GI G) (hC : CX p s m args c cX6_holds 6 RX6 wsX6_holds G (AA G)) (hr : meth.sig.returnType = (some .int)) (hlk : meth.locks = false) {r0 : Int × Hp} : ∀ n : Nat, (∀ {σ : Hp} (hs : RgS σ) {v3 : Int} {v4 : Int} {v5 : Int} (h3 : Rg v3) (h4 : Rg v4) (h5 : Rg v5) (hf : lX6_holds_114 n σ v3 v4 v5 = some r0), VV p l e (headSpec wsX6_holds rmX6_holds).room s m args below meth c (MQ below (QI G r0.1 r0.2) args s 0 0 (AA G)) G (AA G) 0 0 6 σ 114 [(0, rf G 6 0), (3, iv v3), (4, iv v4), (5, iv v5)] []) := by
  intro n
  induction n with
  | zero =>
    exact by intro σ hs v3 v4 v5 h3 h4 h5 hf; exact absurd (show (none : Option (Int × Hp)) = some r0 from hf) (fun z => by cases z)
  | succ n ih =>
    intro σ hs v3 v4 v5 h3 h4 h5 hf
    replace hf := (lX6_holds_114_e0 n σ v3 v4 v5).symm.trans hf
    refine V_iload (k := 5) (q := 116) hC 3 rfl dX6_holds_114 rfl ?_
    refine V_iload_n (k := 3) (q := 117) hC 1 rfl dX6_holds_116 rfl ?_
    refine V_icmp_gt (tgt := 142) (q := 120) hC h5 h3 dX6_holds_117 (by decide) rfl (fun c32 => ?_) (fun c32 => ?_)
    · replace hf := (if_pos c32).symm.trans hf
      refine V_iload (k := 4) (q := 144) hC 2 rfl dX6_holds_142 rfl ?_
      exact V_iret hC hr hlk (re_1 hf) (re_2 hf) h4 hs dX6_holds_144
    · replace hf := (if_neg c32).symm.trans hf
      refine V_aload_n (k := 0) (q := 121) hC 0 rfl dX6_holds_120 rfl ?_
      refine V_getf (T := TX6) (k := 3) (q := 124) hC uX6_holds_6 rfl iD6 rfl (by decide) kX6_holds_f29 rfl dX6_holds_121 rfl ?_
      obtain ⟨r33, σ34, hc35, hf⟩ := cl_some hf
      refine V_cvv (st := []) (q := 127) (σ0 := σ34) hC (sX5_passYear l hG (by decide) hs hc35) (cwV 0 hC.2.2.2.2.1 gX6_holds_X5_passYear rfl rfl rfl (by decide +kernel) ⟨Nat.le_of_ble_eq_true rfl, Nat.le_of_ble_eq_true rfl⟩) ⟨_, rfl, rfl⟩ (iM5 (by decide)) (fun _ => ⟨_, rfl⟩) rfl rfl (Nat.le_of_ble_eq_true rfl) dX6_holds_124 rfl ⟨Nat.zero_le _, Nat.zero_le _⟩ (fun hs37 => ?_)
      refine V_iload (k := 4) (q := 129) hC 2 rfl dX6_holds_127 rfl ?_
      refine V_aload_n (k := 0) (q := 130) hC 0 rfl dX6_holds_129 rfl ?_
      obtain ⟨r38, σ39, hc40, hf⟩ := cl_some hf
      refine V_cvi (st := [iv v4]) (q := 133) (x0 := r38) (σ0 := σ39) hC (sX6_treesOfPairsReadAsOne l hG  hs37 hc40) (cwV 0 hC.2.2.2.2.1 gX6_holds_X6_treesOfPairsReadAsOne rfl rfl rfl (by decide +kernel) ⟨Nat.le_of_ble_eq_true rfl, Nat.le_of_ble_eq_true rfl⟩) ⟨_, rfl, rfl⟩ iD6 (fun _ => ⟨_, rfl⟩) rfl rfl (Nat.le_of_ble_eq_true rfl) dX6_holds_130 rfl ⟨Nat.zero_le _, Nat.zero_le _⟩ (fun hr41 hs42 => ?_)
      refine V_iand (q := 134) hC dX6_holds_133 rfl ?_
      refine V_istore (i := 4) (lv' := [(0, rf G 6 0), (3, iv v3), (4, iv (qand v4 r38)), (5, iv v5)]) (q := 136) hC [1, 2, 0, 3] (by decide) rfl dX6_holds_134 rfl ?_
      refine V_iinc (i := 5) (lv' := [(0, rf G 6 0), (3, iv v3), (4, iv (qand v4 r38)), (5, iv (wr (v5 + 1)))]) (q := 139) hC 3 rfl [1, 2, 3, 0] (by decide) rfl dX6_holds_136 rfl ?_
      refine V_goto (tgt := 114) hC dX6_holds_139 (by decide) ?_
      refine V_lsub [0, 1, 2, 3] rfl ?_
      exact ih hs42 h3 (Rg_qand _ _) (Rg_wr _) hf
set_option maxHeartbeats 4000000 in
set_option maxRecDepth 100000 in
theorem tlX6_holds_63 {p : Program} {l : Launch} {e : Env} {s : State} {m : MethodId} {args : Array Value} {below : List Frame} {meth : Method} {c : Code} {G : GT} (hG : GI G) (hC : CX p s m args c cX6_holds 6 RX6 wsX6_holds G (AA G)) (hr : meth.sig.returnType = (some .int)) (hlk : meth.locks = false) {r0 : Int × Hp} : ∀ n : Nat, (∀ {σ : Hp} (hs : RgS σ) {v1 : Int} {v2 : Int} {v3 : Int} {v4 : Int} (h1 : Rg v1) (h2 : Rg v2) (h3 : Rg v3) (h4 : Rg v4) (hf : lX6_holds_63 n σ v1 v2 v3 v4 = some r0), VV p l e (headSpec wsX6_holds rmX6_holds).room s m args below meth c (MQ below (QI G r0.1 r0.2) args s 0 0 (AA G)) G (AA G) 0 0 6 σ 63 [(0, rf G 6 0), (1, iv v1), (2, iv v2), (3, iv v3), (4, iv v4)] []) := by
  intro n
  induction n with
  | zero =>
    exact by intro σ hs v1 v2 v3 v4 h1 h2 h3 h4 hf; exact absurd (show (none : Option (Int × Hp)) = some r0 from hf) (fun z => by cases z)
  | succ n ih =>
    intro σ hs v1 v2 v3 v4 h1 h2 h3 h4 hf
    replace hf := (lX6_holds_63_e0 n σ v1 v2 v3 v4).symm.trans hf
    refine V_iload (k := 4) (q := 65) hC 4 rfl dX6_holds_63 rfl ?_
    refine V_aload_n (k := 0) (q := 66) hC 0 rfl dX6_holds_65 rfl ?_
    refine V_getf (T := TX6) (k := 3) (q := 69) hC uX6_holds_6 rfl iD6 rfl (by decide) kX6_holds_f29 rfl dX6_holds_66 rfl ?_
    refine V_getf (T := TX5) (k := 10) (q := 72) hC uX6_holds_5 rfl (iM5 (by decide)) rfl (by decide) kX6_holds_f233 rfl dX6_holds_69 rfl ?_
    refine V_icmp_ge (tgt := 105) (q := 75) hC h4 (hs _ _ _) dX6_holds_72 (by decide) rfl (fun c16 => ?_) (fun c16 => ?_)
    · replace hf := (if_pos c16).symm.trans hf
      refine V_aload_n (k := 0) (q := 106) hC 0 rfl dX6_holds_105 rfl ?_
      obtain ⟨r17, σ18, hc19, hf⟩ := cl_some hf
      refine V_cvi (st := []) (q := 109) (x0 := r17) (σ0 := σ18) hC (sX6_treesOfPairsReadAsOne l hG  hs hc19) (cwV 0 hC.2.2.2.2.1 gX6_holds_X6_treesOfPairsReadAsOne rfl rfl rfl (by decide +kernel) ⟨Nat.le_of_ble_eq_true rfl, Nat.le_of_ble_eq_true rfl⟩) ⟨_, rfl, rfl⟩ iD6 (fun _ => ⟨_, rfl⟩) rfl rfl (Nat.le_of_ble_eq_true rfl) dX6_holds_106 rfl ⟨Nat.zero_le _, Nat.zero_le _⟩ (fun hr20 hs21 => ?_)
      refine V_istore (i := 4) (lv' := [(0, rf G 6 0), (1, iv v1), (2, iv v2), (3, iv v3), (4, iv r17)]) (q := 111) hC [1, 2, 3, 4, 0] (by decide) rfl dX6_holds_109 rfl ?_
      refine V_iconst (q := 112) hC dX6_holds_111 rfl ?_
      refine V_istore (i := 5) (lv' := [(0, rf G 6 0), (1, iv v1), (2, iv v2), (3, iv v3), (4, iv r17), (5, iv 1)]) (q := 114) hC [1, 2, 3, 4, 5, 0] (by decide) rfl dX6_holds_112 rfl ?_
      refine V_lsub [0, 3, 4, 5] rfl ?_
      exact (tlX6_holds_114 hG hC hr hlk FU) hs21 h3 hr20 (Rg_c rfl) hf
    · replace hf := (if_neg c16).symm.trans hf
      refine V_aload_n (k := 0) (q := 76) hC 0 rfl dX6_holds_75 rfl ?_
      refine V_getf (T := TX6) (k := 3) (q := 79) hC uX6_holds_6 rfl iD6 rfl (by decide) kX6_holds_f29 rfl dX6_holds_76 rfl ?_
      refine V_iload (k := 4) (q := 81) hC 4 rfl dX6_holds_79 rfl ?_
      refine V_iconst (q := 82) hC dX6_holds_81 rfl ?_
      refine V_iconst (q := 83) hC dX6_holds_82 rfl ?_
      refine V_iload_n (k := 2) (q := 84) hC 2 rfl dX6_holds_83 rfl ?_
      obtain ⟨r22, σ23, hc24, hf⟩ := cl_some hf
      refine V_cvv (st := []) (q := 87) (σ0 := σ23) hC (sX5_addCut l hG (by decide) h4 (Rg_c rfl) (Rg_c rfl) h2 hs hc24) (cwV 4 hC.2.2.2.2.1 gX6_holds_X5_addCut rfl rfl rfl (by decide +kernel) ⟨Nat.le_of_ble_eq_true rfl, Nat.le_of_ble_eq_true rfl⟩) ⟨_, rfl, rfl⟩ (iM5 (by decide)) (fun _ => ⟨_, rfl⟩) rfl rfl (Nat.le_of_ble_eq_true rfl) dX6_holds_84 rfl ⟨Nat.zero_le _, Nat.zero_le _⟩ (fun hs26 => ?_)
      refine V_aload_n (k := 0) (q := 88) hC 0 rfl dX6_holds_87 rfl ?_
      refine V_getf (T := TX6) (k := 3) (q := 91) hC uX6_holds_6 rfl iD6 rfl (by decide) kX6_holds_f29 rfl dX6_holds_88 rfl ?_
      refine V_iload (k := 4) (q := 93) hC 4 rfl dX6_holds_91 rfl ?_
      refine V_iconst (q := 94) hC dX6_holds_93 rfl ?_
      refine V_iload_n (k := 1) (q := 95) hC 1 rfl dX6_holds_94 rfl ?_
      refine V_iload_n (k := 2) (q := 96) hC 2 rfl dX6_holds_95 rfl ?_
      obtain ⟨r27, σ28, hc29, hf⟩ := cl_some hf
      refine V_cvv (st := []) (q := 99) (σ0 := σ28) hC (sX5_addCut l hG (by decide) h4 (Rg_c rfl) h1 h2 hs26 hc29) (cwV 4 hC.2.2.2.2.1 gX6_holds_X5_addCut rfl rfl rfl (by decide +kernel) ⟨Nat.le_of_ble_eq_true rfl, Nat.le_of_ble_eq_true rfl⟩) ⟨_, rfl, rfl⟩ (iM5 (by decide)) (fun _ => ⟨_, rfl⟩) rfl rfl (Nat.le_of_ble_eq_true rfl) dX6_holds_96 rfl ⟨Nat.zero_le _, Nat.zero_le _⟩ (fun hs31 => ?_)
      refine V_iinc (i := 4) (lv' := [(0, rf G 6 0), (1, iv v1), (2, iv v2), (3, iv v3), (4, iv (wr (v4 + 1)))]) (q := 102) hC 4 rfl [1, 2, 3, 4, 0] (by decide) rfl dX6_holds_99 rfl ?_
      refine V_goto (tgt := 63) hC dX6_holds_102 (by decide) ?_
      refine V_lsub [0, 1, 2, 3, 4] rfl ?_
      exact ih hs31 h1 h2 h3 (Rg_wr _) hf
set_option maxHeartbeats 4000000 in
set_option maxRecDepth 100000 in
theorem sX6_holds (l : Launch) {G : GT} (hG : GI G) {v1 : Int} {v2 : Int} {v3 : Int} (h1 : Rg v1) (h2 : Rg v2) (h3 : Rg v3) {σ : Hp} (hs : RgS σ) {r0 : Int × Hp} (hf : fX6_holds σ v1 v2 v3 = some r0) : Cti l G yX6_holds wsX6_holds rmX6_holds [rf G 6 0, iv v1, iv v2, iv v3] σ r0.1 r0.2 := by
  unfold fX6_holds at hf
  refine Cti_start (lv := [(0, rf G 6 0), (1, iv v1), (2, iv v2), (3, iv v3)]) (ret := (some .int)) (by decide +kernel) rfl hG (Nat.le_of_ble_eq_true rfl) rfl (fun p e s m args below meth c hC hr hlk => ?_)
  refine V_aload_n (k := 0) (q := 1) hC 0 rfl dX6_holds_0 rfl ?_
  refine V_getf (T := TX6) (k := 2) (q := 4) hC uX6_holds_6 rfl iD6 rfl (by decide) kX6_holds_f25 rfl dX6_holds_1 rfl ?_
  refine V_getf (T := TX5) (k := 7) (q := 7) hC uX6_holds_5 rfl (iM5 (by decide)) rfl (by decide) kX6_holds_f137 rfl dX6_holds_4 rfl ?_
  refine V_if_ne (tgt := 13) (q := 10) hC (hs _ _ _) dX6_holds_7 (by decide) rfl (fun c1 => ?_) (fun c1 => ?_)
  · replace hf := (if_neg c1).symm.trans hf
    refine V_iload_n (k := 1) (q := 14) hC 1 rfl dX6_holds_13 rfl ?_
    refine V_iconst (q := 15) hC dX6_holds_14 rfl ?_
    refine V_icmp_lt (tgt := 38) (q := 18) hC h1 (Rg_c rfl) dX6_holds_15 (by decide) rfl (fun c2 => ?_) (fun c2 => ?_)
    · replace hf := (if_pos c2).symm.trans hf
      refine V_ldc (q := 40) (n := (-1000001)) hC (by decide) kX6_holds_c62 dX6_holds_38 rfl ?_
      exact V_iret hC hr hlk (re_1 hf) (re_2 hf) (Rg_c rfl) hs dX6_holds_40
    · replace hf := (if_neg c2).symm.trans hf
      refine V_iload_n (k := 1) (q := 19) hC 1 rfl dX6_holds_18 rfl ?_
      refine V_bipush (q := 21) hC (by decide) dX6_holds_19 rfl ?_
      refine V_icmp_gt (tgt := 38) (q := 24) hC h1 (Rg_c rfl) dX6_holds_21 (by decide) rfl (fun c3 => ?_) (fun c3 => ?_)
      · replace hf := (if_pos c3).symm.trans hf
        refine V_ldc (q := 40) (n := (-1000001)) hC (by decide) kX6_holds_c62 dX6_holds_38 rfl ?_
        exact V_iret hC hr hlk (re_1 hf) (re_2 hf) (Rg_c rfl) hs dX6_holds_40
      · replace hf := (if_neg c3).symm.trans hf
        refine V_iload_n (k := 2) (q := 25) hC 2 rfl dX6_holds_24 rfl ?_
        refine V_csi (st := []) (q := 28) hC (sX6_isDepth l hG h2 hs) (va_cwS 1 hC.2.2.2.2.1 gX6_holds_X6_isDepth rfl rfl rfl (by decide +kernel) ⟨Nat.le_of_ble_eq_true rfl, Nat.le_of_ble_eq_true rfl⟩) rfl rfl (Nat.le_of_ble_eq_true rfl) dX6_holds_25 rfl ⟨Nat.zero_le _, Nat.zero_le _⟩ (fun hr4 _ => ?_)
        refine V_if_eq (tgt := 38) (q := 31) hC hr4 dX6_holds_28 (by decide) rfl (fun c5 => ?_) (fun c5 => ?_)
        · replace hf := (if_pos c5).symm.trans hf
          refine V_ldc (q := 40) (n := (-1000001)) hC (by decide) kX6_holds_c62 dX6_holds_38 rfl ?_
          exact V_iret hC hr hlk (re_1 hf) (re_2 hf) (Rg_c rfl) hs dX6_holds_40
        · replace hf := (if_neg c5).symm.trans hf
          refine V_iload_n (k := 3) (q := 32) hC 3 rfl dX6_holds_31 rfl ?_
          refine V_csi (st := []) (q := 35) hC (sX6_isForetold l hG h3 hs) (va_cwS 1 hC.2.2.2.2.1 gX6_holds_X6_isForetold rfl rfl rfl (by decide +kernel) ⟨Nat.le_of_ble_eq_true rfl, Nat.le_of_ble_eq_true rfl⟩) rfl rfl (Nat.le_of_ble_eq_true rfl) dX6_holds_32 rfl ⟨Nat.zero_le _, Nat.zero_le _⟩ (fun hr6 _ => ?_)
          refine V_if_ne (tgt := 41) (q := 38) hC hr6 dX6_holds_35 (by decide) rfl (fun c7 => ?_) (fun c7 => ?_)
          · replace hf := (if_neg c7).symm.trans hf
            refine V_aload_n (k := 0) (q := 42) hC 0 rfl dX6_holds_41 rfl ?_
            refine V_getf (T := TX6) (k := 3) (q := 45) hC uX6_holds_6 rfl iD6 rfl (by decide) kX6_holds_f29 rfl dX6_holds_42 rfl ?_
            refine V_aload_n (k := 0) (q := 46) hC 0 rfl dX6_holds_45 rfl ?_
            refine V_getf (T := TX6) (k := 2) (q := 49) hC uX6_holds_6 rfl iD6 rfl (by decide) kX6_holds_f25 rfl dX6_holds_46 rfl ?_
            obtain ⟨r8, σ9, hc10, hf⟩ := cl_some hf
            refine V_cvv (st := []) (q := 52) (σ0 := σ9) hC (sX5_become l hG (by decide) (by decide) hs hc10) (cwV 1 hC.2.2.2.2.1 gX6_holds_X5_become rfl rfl rfl (by decide +kernel) ⟨Nat.le_of_ble_eq_true rfl, Nat.le_of_ble_eq_true rfl⟩) ⟨_, rfl, rfl⟩ (iM5 (by decide)) (fun _ => ⟨_, rfl⟩) rfl rfl (Nat.le_of_ble_eq_true rfl) dX6_holds_49 rfl ⟨Nat.zero_le _, Nat.zero_le _⟩ (fun hs12 => ?_)
            refine V_aload_n (k := 0) (q := 53) hC 0 rfl dX6_holds_52 rfl ?_
            refine V_getf (T := TX6) (k := 3) (q := 56) hC uX6_holds_6 rfl iD6 rfl (by decide) kX6_holds_f29 rfl dX6_holds_53 rfl ?_
            refine V_iconst (q := 57) hC dX6_holds_56 rfl ?_
            obtain ⟨σ13, e14, hf⟩ := sq_ex hf
            have hs15 : RgS σ13 := by rw [e14]; exact RgS_hup hs12 (Rg_c rfl)
            refine V_putf (T := TX5) (k := 11) (ty := .int) (q := 60) hC uX6_holds_5 rfl tyX5 tyX5_ok nmX5 (iM5 (by decide)) rfl (pf_5_11 _ _ _ _ rfl) (by decide) kX6_holds_f134 rfl (by decide +kernel) rfl rfl (Nat.le_of_ble_eq_true rfl) e14 dX6_holds_57 rfl ?_
            refine V_iconst (q := 61) hC dX6_holds_60 rfl ?_
            refine V_istore (i := 4) (lv' := [(0, rf G 6 0), (1, iv v1), (2, iv v2), (3, iv v3), (4, iv 0)]) (q := 63) hC [1, 2, 3, 4, 0] (by decide) rfl dX6_holds_61 rfl ?_
            refine V_lsub [0, 1, 2, 3, 4] rfl ?_
            exact (tlX6_holds_63 hG hC hr hlk FU) hs15 h1 h2 h3 (Rg_c rfl) hf
          · replace hf := (if_pos c7).symm.trans hf
            refine V_ldc (q := 40) (n := (-1000001)) hC (by decide) kX6_holds_c62 dX6_holds_38 rfl ?_
            exact V_iret hC hr hlk (re_1 hf) (re_2 hf) (Rg_c rfl) hs dX6_holds_40
  · replace hf := (if_pos c1).symm.trans hf
    refine V_ldc (q := 12) (n := (-1000002)) hC (by decide) kX6_holds_c140 dX6_holds_10 rfl ?_
    exact V_iret hC hr hlk (re_1 hf) (re_2 hf) (Rg_c rfl) hs dX6_holds_12
/-! X6_deep -/
theorem kX6_deep_f25 : Cond.fieldLink RX6 25 "BarkNames" "now" "LBarkNames$Wood;" ∈ wsX6_deep := by decide +kernel
theorem uX6_deep_6 : ∀ w ∈ u_ws RX6 TX6 10, w ∈ wsX6_deep := by decide +kernel
theorem kX6_deep_c62 : Cond.constant RX6 62 (-1000001) ∈ wsX6_deep := by decide +kernel
theorem kX6_deep_f29 : Cond.fieldLink RX6 29 "BarkNames" "tried" "LBarkNames$Wood;" ∈ wsX6_deep := by decide +kernel
theorem kX6_deep_f134 : Cond.fieldLink RX6 134 "BarkNames$Wood" "cutCount" "I" ∈ wsX6_deep := by decide +kernel
theorem uX6_deep_5 : ∀ w ∈ u_ws RX5 TX5 12, w ∈ wsX6_deep := by decide +kernel
theorem kX6_deep_f178 : Cond.fieldLink RX6 178 "BarkNames$Wood" "depthOf" "[I" ∈ wsX6_deep := by decide +kernel
theorem kX6_deep_c219 : Cond.constant RX6 219 (-1000000) ∈ wsX6_deep := by decide +kernel
abbrev rmX6_deep : Room := { frames := 4, cells := 0, slots := 0, locals := 88 }
set_option maxHeartbeats 4000000 in
set_option maxRecDepth 100000 in
theorem sX6_deep (l : Launch) {G : GT} (hG : GI G) {v1 : Int} {v2 : Int} (h1 : Rg v1) (h2 : Rg v2) {σ : Hp} (hs : RgS σ) {r0 : Int × Hp} (hf : fX6_deep σ v1 v2 = some r0) : Cti l G yX6_deep wsX6_deep rmX6_deep [rf G 6 0, iv v1, iv v2] σ r0.1 r0.2 := by
  unfold fX6_deep at hf
  refine Cti_start (lv := [(0, rf G 6 0), (1, iv v1), (2, iv v2)]) (ret := (some .int)) (by decide +kernel) rfl hG (Nat.le_of_ble_eq_true rfl) rfl (fun p e s m args below meth c hC hr hlk => ?_)
  refine V_aload_n (k := 0) (q := 1) hC 0 rfl dX6_deep_0 rfl ?_
  refine V_getf (T := TX6) (k := 2) (q := 4) hC uX6_deep_6 rfl iD6 rfl (by decide) kX6_deep_f25 rfl dX6_deep_1 rfl ?_
  refine V_iload_n (k := 1) (q := 5) hC 1 rfl dX6_deep_4 rfl ?_
  refine V_cvi (st := []) (q := 8) hC (sX5_hasTree l hG (by decide) h1 hs) (cwV 1 hC.2.2.2.2.1 gX6_deep_X5_hasTree rfl rfl rfl (by decide +kernel) ⟨Nat.le_of_ble_eq_true rfl, Nat.le_of_ble_eq_true rfl⟩) ⟨_, rfl, rfl⟩ (iM5 (by decide)) (fun _ => ⟨_, rfl⟩) rfl rfl (Nat.le_of_ble_eq_true rfl) dX6_deep_5 rfl ⟨Nat.zero_le _, Nat.zero_le _⟩ (fun hr1 _ => ?_)
  refine V_if_eq (tgt := 18) (q := 11) hC hr1 dX6_deep_8 (by decide) rfl (fun c2 => ?_) (fun c2 => ?_)
  · replace hf := (if_pos c2).symm.trans hf
    refine V_ldc (q := 20) (n := (-1000001)) hC (by decide) kX6_deep_c62 dX6_deep_18 rfl ?_
    exact V_iret hC hr hlk (re_1 hf) (re_2 hf) (Rg_c rfl) hs dX6_deep_20
  · replace hf := (if_neg c2).symm.trans hf
    refine V_iload_n (k := 2) (q := 12) hC 2 rfl dX6_deep_11 rfl ?_
    refine V_csi (st := []) (q := 15) hC (sX6_isForetold l hG h2 hs) (va_cwS 1 hC.2.2.2.2.1 gX6_deep_X6_isForetold rfl rfl rfl (by decide +kernel) ⟨Nat.le_of_ble_eq_true rfl, Nat.le_of_ble_eq_true rfl⟩) rfl rfl (Nat.le_of_ble_eq_true rfl) dX6_deep_12 rfl ⟨Nat.zero_le _, Nat.zero_le _⟩ (fun hr3 _ => ?_)
    refine V_if_ne (tgt := 21) (q := 18) hC hr3 dX6_deep_15 (by decide) rfl (fun c4 => ?_) (fun c4 => ?_)
    · replace hf := (if_neg c4).symm.trans hf
      refine V_aload_n (k := 0) (q := 22) hC 0 rfl dX6_deep_21 rfl ?_
      refine V_getf (T := TX6) (k := 3) (q := 25) hC uX6_deep_6 rfl iD6 rfl (by decide) kX6_deep_f29 rfl dX6_deep_22 rfl ?_
      refine V_aload_n (k := 0) (q := 26) hC 0 rfl dX6_deep_25 rfl ?_
      refine V_getf (T := TX6) (k := 2) (q := 29) hC uX6_deep_6 rfl iD6 rfl (by decide) kX6_deep_f25 rfl dX6_deep_26 rfl ?_
      obtain ⟨r5, σ6, hc7, hf⟩ := cl_some hf
      refine V_cvv (st := []) (q := 32) (σ0 := σ6) hC (sX5_become l hG (by decide) (by decide) hs hc7) (cwV 1 hC.2.2.2.2.1 gX6_deep_X5_become rfl rfl rfl (by decide +kernel) ⟨Nat.le_of_ble_eq_true rfl, Nat.le_of_ble_eq_true rfl⟩) ⟨_, rfl, rfl⟩ (iM5 (by decide)) (fun _ => ⟨_, rfl⟩) rfl rfl (Nat.le_of_ble_eq_true rfl) dX6_deep_29 rfl ⟨Nat.zero_le _, Nat.zero_le _⟩ (fun hs9 => ?_)
      refine V_aload_n (k := 0) (q := 33) hC 0 rfl dX6_deep_32 rfl ?_
      refine V_getf (T := TX6) (k := 3) (q := 36) hC uX6_deep_6 rfl iD6 rfl (by decide) kX6_deep_f29 rfl dX6_deep_33 rfl ?_
      refine V_iconst (q := 37) hC dX6_deep_36 rfl ?_
      obtain ⟨σ10, e11, hf⟩ := sq_ex hf
      have hs12 : RgS σ10 := by rw [e11]; exact RgS_hup hs9 (Rg_c rfl)
      refine V_putf (T := TX5) (k := 11) (ty := .int) (q := 40) hC uX6_deep_5 rfl tyX5 tyX5_ok nmX5 (iM5 (by decide)) rfl (pf_5_11 _ _ _ _ rfl) (by decide) kX6_deep_f134 rfl (by decide +kernel) rfl rfl (Nat.le_of_ble_eq_true rfl) e11 dX6_deep_37 rfl ?_
      refine V_aload_n (k := 0) (q := 41) hC 0 rfl dX6_deep_40 rfl ?_
      refine V_getf (T := TX6) (k := 3) (q := 44) hC uX6_deep_6 rfl iD6 rfl (by decide) kX6_deep_f29 rfl dX6_deep_41 rfl ?_
      refine V_iload_n (k := 1) (q := 45) hC 1 rfl dX6_deep_44 rfl ?_
      refine V_iconst (q := 46) hC dX6_deep_45 rfl ?_
      refine V_iconst (q := 47) hC dX6_deep_46 rfl ?_
      refine V_bipush (q := 49) hC (by decide) dX6_deep_47 rfl ?_
      obtain ⟨r13, σ14, hc15, hf⟩ := cl_some hf
      refine V_cvv (st := []) (q := 52) (σ0 := σ14) hC (sX5_addCut l hG (by decide) h1 (Rg_c rfl) (Rg_c rfl) (Rg_c rfl) hs12 hc15) (cwV 4 hC.2.2.2.2.1 gX6_deep_X5_addCut rfl rfl rfl (by decide +kernel) ⟨Nat.le_of_ble_eq_true rfl, Nat.le_of_ble_eq_true rfl⟩) ⟨_, rfl, rfl⟩ (iM5 (by decide)) (fun _ => ⟨_, rfl⟩) rfl rfl (Nat.le_of_ble_eq_true rfl) dX6_deep_49 rfl ⟨Nat.zero_le _, Nat.zero_le _⟩ (fun hs17 => ?_)
      refine V_aload_n (k := 0) (q := 53) hC 0 rfl dX6_deep_52 rfl ?_
      refine V_getf (T := TX6) (k := 3) (q := 56) hC uX6_deep_6 rfl iD6 rfl (by decide) kX6_deep_f29 rfl dX6_deep_53 rfl ?_
      refine V_iload_n (k := 2) (q := 57) hC 2 rfl dX6_deep_56 rfl ?_
      obtain ⟨r18, σ19, hc20, hf⟩ := cl_some hf
      refine V_cvv (st := []) (q := 60) (σ0 := σ19) hC (sX5_passYears l hG (by decide) h2 hs17 hc20) (cwV 1 hC.2.2.2.2.1 gX6_deep_X5_passYears rfl rfl rfl (by decide +kernel) ⟨Nat.le_of_ble_eq_true rfl, Nat.le_of_ble_eq_true rfl⟩) ⟨_, rfl, rfl⟩ (iM5 (by decide)) (fun _ => ⟨_, rfl⟩) rfl rfl (Nat.le_of_ble_eq_true rfl) dX6_deep_57 rfl ⟨Nat.zero_le _, Nat.zero_le _⟩ (fun hs22 => ?_)
      refine V_aload_n (k := 0) (q := 61) hC 0 rfl dX6_deep_60 rfl ?_
      refine V_getf (T := TX6) (k := 3) (q := 64) hC uX6_deep_6 rfl iD6 rfl (by decide) kX6_deep_f29 rfl dX6_deep_61 rfl ?_
      refine V_getf (T := TX5) (k := 6) (q := 67) hC uX6_deep_5 rfl (iM5 (by decide)) rfl (by decide) kX6_deep_f178 rfl dX6_deep_64 rfl ?_
      refine V_iconst (q := 68) hC dX6_deep_67 rfl ?_
      refine V_iald (n := 8) (q := 69) hC (iM19 (by decide)) rfl ⟨by decide, by decide⟩ (Rg_c rfl) dX6_deep_68 rfl ?_
      refine V_istore_n (k := 3) (i := 3) (lv' := [(0, rf G 6 0), (1, iv v1), (2, iv v2), (3, iv (σ19 19 1 0))]) (q := 70) hC [1, 2, 3, 0] rfl (by decide) rfl dX6_deep_69 rfl ?_
      refine V_iload_n (k := 3) (q := 71) hC 3 rfl dX6_deep_70 rfl ?_
      refine V_if_ne (tgt := 79) (q := 74) hC (hs22 _ _ _) dX6_deep_71 (by decide) rfl (fun c23 => ?_) (fun c23 => ?_)
      · replace hf := (if_neg c23).symm.trans hf
        refine V_bipush (q := 81) hC (by decide) dX6_deep_79 rfl ?_
        refine V_iload_n (k := 3) (q := 82) hC 3 rfl dX6_deep_81 rfl ?_
        refine V_isub (q := 83) hC dX6_deep_82 rfl ?_
        refine V_iconst (q := 84) hC dX6_deep_83 rfl ?_
        refine V_iadd (q := 85) hC dX6_deep_84 rfl ?_
        exact V_iret hC hr hlk (re_1 hf) (re_2 hf) (Rg_wr _) hs22 dX6_deep_85
      · replace hf := (if_pos c23).symm.trans hf
        refine V_ldc (q := 76) (n := (-1000000)) hC (by decide) kX6_deep_c219 dX6_deep_74 rfl ?_
        refine V_goto (tgt := 85) hC dX6_deep_76 (by decide) ?_
        exact V_iret hC hr hlk (re_1 hf) (re_2 hf) (Rg_c rfl) hs22 dX6_deep_85
    · replace hf := (if_pos c4).symm.trans hf
      refine V_ldc (q := 20) (n := (-1000001)) hC (by decide) kX6_deep_c62 dX6_deep_18 rfl ?_
      exact V_iret hC hr hlk (re_1 hf) (re_2 hf) (Rg_c rfl) hs dX6_deep_20
/-! X6_isChoice -/
abbrev rmX6_isChoice : Room := { frames := 1, cells := 0, slots := 0, locals := 21 }
set_option maxHeartbeats 4000000 in
set_option maxRecDepth 100000 in
theorem sX6_isChoice (l : Launch) {G : GT} (hG : GI G) {v0 : Int} (h0 : Rg v0) {σ : Hp} (hs : RgS σ) : Cti l G yX6_isChoice wsX6_isChoice rmX6_isChoice [iv v0] σ (fX6_isChoice v0) σ := by
  obtain ⟨x0, hf⟩ : ∃ x, fX6_isChoice v0 = x := ⟨_, rfl⟩
  rw [hf]
  unfold fX6_isChoice at hf
  refine Cti_start (lv := [(0, iv v0)]) (ret := (some .boolean)) (by decide +kernel) rfl hG (Nat.le_of_ble_eq_true rfl) rfl (fun p e s m args below meth c hC hr hlk => ?_)
  refine V_iload_n (k := 0) (q := 1) hC 0 rfl dX6_isChoice_0 rfl ?_
  refine V_iconst (q := 2) hC dX6_isChoice_1 rfl ?_
  refine V_csi (st := []) (q := 5) hC (sX6_isBelow l hG h0 (Rg_c rfl) hs) (va_cwS 2 hC.2.2.2.2.1 gX6_isChoice_X6_isBelow rfl rfl rfl (by decide +kernel) ⟨Nat.le_of_ble_eq_true rfl, Nat.le_of_ble_eq_true rfl⟩) rfl rfl (Nat.le_of_ble_eq_true rfl) dX6_isChoice_2 rfl ⟨Nat.zero_le _, Nat.zero_le _⟩ (fun hr1 _ => ?_)
  exact V_zret hC hr hlk (zX6_isBelow _ _) hf rfl hs dX6_isChoice_5
/-! X6_meet -/
theorem kX6_meet_f25 : Cond.fieldLink RX6 25 "BarkNames" "now" "LBarkNames$Wood;" ∈ wsX6_meet := by decide +kernel
theorem uX6_meet_6 : ∀ w ∈ u_ws RX6 TX6 10, w ∈ wsX6_meet := by decide +kernel
theorem kX6_meet_c62 : Cond.constant RX6 62 (-1000001) ∈ wsX6_meet := by decide +kernel
theorem kX6_meet_c219 : Cond.constant RX6 219 (-1000000) ∈ wsX6_meet := by decide +kernel
theorem kX6_meet_f134 : Cond.fieldLink RX6 134 "BarkNames$Wood" "cutCount" "I" ∈ wsX6_meet := by decide +kernel
theorem uX6_meet_5 : ∀ w ∈ u_ws RX5 TX5 12, w ∈ wsX6_meet := by decide +kernel
theorem kX6_meet_f203 : Cond.fieldLink RX6 203 "BarkNames$Wood" "treeOf" "[I" ∈ wsX6_meet := by decide +kernel
abbrev rmX6_meet : Room := { frames := 3, cells := 0, slots := 0, locals := 66 }
set_option maxHeartbeats 4000000 in
set_option maxRecDepth 100000 in
theorem tlX6_meet_30 {p : Program} {l : Launch} {e : Env} {s : State} {m : MethodId} {args : Array Value} {below : List Frame} {meth : Method} {c : Code} {G : GT} (hG : GI G) (hC : CX p s m args c cX6_meet 7 RX6 wsX6_meet G (AA G)) (hr : meth.sig.returnType = (some .int)) (hlk : meth.locks = false) {r0 : Int × Hp} : ∀ n : Nat, (∀ {σ : Hp} (hs : RgS σ) {v1 : Int} {v2 : Int} {v3 : Int} {v4 : Int} {v5 : Int} (h1 : Rg v1) (h2 : Rg v2) (h3 : Rg v3) (h4 : Rg v4) (h5 : Rg v5) (hf : lX6_meet_30 n 0 σ v1 v2 v3 v4 v5 0 = some r0), VV p l e (headSpec wsX6_meet rmX6_meet).room s m args below meth c (MQ below (QI G r0.1 r0.2) args s 0 0 (AA G)) G (AA G) 0 0 7 σ 30 [(0, rf G 6 0), (1, iv v1), (2, iv v2), (3, iv v3), (4, iv v4), (5, iv v5)] []) ∧ (∀ {σ : Hp} (hs : RgS σ) {v1 : Int} {v2 : Int} {v3 : Int} {v4 : Int} {v5 : Int} {v6 : Int} (h1 : Rg v1) (h2 : Rg v2) (h3 : Rg v3) (h4 : Rg v4) (h5 : Rg v5) (h6 : Rg v6) (hf : lX6_meet_30 n 1 σ v1 v2 v3 v4 v5 v6 = some r0), VV p l e (headSpec wsX6_meet rmX6_meet).room s m args below meth c (MQ below (QI G r0.1 r0.2) args s 0 0 (AA G)) G (AA G) 0 0 7 σ 48 [(0, rf G 6 0), (1, iv v1), (2, iv v2), (3, iv v3), (4, iv v4), (5, iv v5), (6, iv v6)] []) := by
  intro n
  induction n with
  | zero =>
    exact ⟨by intro σ hs v1 v2 v3 v4 v5 h1 h2 h3 h4 h5 hf; exact absurd (show (none : Option (Int × Hp)) = some r0 from hf) (fun z => by cases z), by intro σ hs v1 v2 v3 v4 v5 v6 h1 h2 h3 h4 h5 h6 hf; exact absurd (show (none : Option (Int × Hp)) = some r0 from hf) (fun z => by cases z)⟩
  | succ n ih =>
    refine ⟨?_, ?_⟩
    · intro σ hs v1 v2 v3 v4 v5 h1 h2 h3 h4 h5 hf
      replace hf := (lX6_meet_30_e0 n σ v1 v2 v3 v4 v5 0).symm.trans hf
      refine V_iload (k := 5) (q := 32) hC 5 rfl dX6_meet_30 rfl ?_
      refine V_aload_n (k := 0) (q := 33) hC 0 rfl dX6_meet_32 rfl ?_
      refine V_getf (T := TX6) (k := 2) (q := 36) hC uX6_meet_6 rfl iD6 rfl (by decide) kX6_meet_f25 rfl dX6_meet_33 rfl ?_
      refine V_getf (T := TX5) (k := 11) (q := 39) hC uX6_meet_5 rfl (iM5 (by decide)) rfl (by decide) kX6_meet_f134 rfl dX6_meet_36 rfl ?_
      refine V_icmp_ge (tgt := 122) (q := 42) hC h5 (hs _ _ _) dX6_meet_39 (by decide) rfl (fun c5 => ?_) (fun c5 => ?_)
      · replace hf := (if_pos c5).symm.trans hf
        refine V_iload_n (k := 2) (q := 123) hC 2 rfl dX6_meet_122 rfl ?_
        refine V_if_ne (tgt := 130) (q := 126) hC h2 dX6_meet_123 (by decide) rfl (fun c6 => ?_) (fun c6 => ?_)
        · replace hf := (if_neg c6).symm.trans hf
          refine V_iload (k := 4) (q := 132) hC 4 rfl dX6_meet_130 rfl ?_
          exact V_iret hC hr hlk (re_1 hf) (re_2 hf) h4 hs dX6_meet_132
        · replace hf := (if_pos c6).symm.trans hf
          refine V_iload_n (k := 3) (q := 127) hC 3 rfl dX6_meet_126 rfl ?_
          refine V_goto (tgt := 132) hC dX6_meet_127 (by decide) ?_
          exact V_iret hC hr hlk (re_1 hf) (re_2 hf) h3 hs dX6_meet_132
      · replace hf := (if_neg c5).symm.trans hf
        refine V_iload (k := 5) (q := 44) hC 5 rfl dX6_meet_42 rfl ?_
        refine V_iconst (q := 45) hC dX6_meet_44 rfl ?_
        refine V_iadd (q := 46) hC dX6_meet_45 rfl ?_
        refine V_istore (i := 6) (lv' := [(0, rf G 6 0), (1, iv v1), (2, iv v2), (3, iv v3), (4, iv v4), (5, iv v5), (6, iv (wr (v5 + 1)))]) (q := 48) hC [1, 2, 3, 4, 5, 6, 0] (by decide) rfl dX6_meet_46 rfl ?_
        refine V_lsub [0, 1, 2, 3, 4, 5, 6] rfl ?_
        exact ih.2 hs h1 h2 h3 h4 h5 (Rg_wr _) hf
    · intro σ hs v1 v2 v3 v4 v5 v6 h1 h2 h3 h4 h5 h6 hf
      replace hf := (lX6_meet_30_e1 n σ v1 v2 v3 v4 v5 v6).symm.trans hf
      refine V_iload (k := 6) (q := 50) hC 6 rfl dX6_meet_48 rfl ?_
      refine V_aload_n (k := 0) (q := 51) hC 0 rfl dX6_meet_50 rfl ?_
      refine V_getf (T := TX6) (k := 2) (q := 54) hC uX6_meet_6 rfl iD6 rfl (by decide) kX6_meet_f25 rfl dX6_meet_51 rfl ?_
      refine V_getf (T := TX5) (k := 11) (q := 57) hC uX6_meet_5 rfl (iM5 (by decide)) rfl (by decide) kX6_meet_f134 rfl dX6_meet_54 rfl ?_
      refine V_icmp_ge (tgt := 116) (q := 60) hC h6 (hs _ _ _) dX6_meet_57 (by decide) rfl (fun c7 => ?_) (fun c7 => ?_)
      · replace hf := (if_pos c7).symm.trans hf
        refine V_iinc (i := 5) (lv' := [(0, rf G 6 0), (1, iv v1), (2, iv v2), (3, iv v3), (4, iv v4), (5, iv (wr (v5 + 1))), (6, iv v6)]) (q := 119) hC 5 rfl [1, 2, 3, 4, 5, 0, 6] (by decide) rfl dX6_meet_116 rfl ?_
        refine V_goto (tgt := 30) hC dX6_meet_119 (by decide) ?_
        refine V_lsub [0, 1, 2, 3, 4, 5] rfl ?_
        exact ih.1 hs h1 h2 h3 h4 (Rg_wr _) hf
      · replace hf := (if_neg c7).symm.trans hf
        refine V_aload_n (k := 0) (q := 61) hC 0 rfl dX6_meet_60 rfl ?_
        refine V_getf (T := TX6) (k := 2) (q := 64) hC uX6_meet_6 rfl iD6 rfl (by decide) kX6_meet_f25 rfl dX6_meet_61 rfl ?_
        refine V_getf (T := TX5) (k := 3) (q := 67) hC uX6_meet_5 rfl (iM5 (by decide)) rfl (by decide) kX6_meet_f203 rfl dX6_meet_64 rfl ?_
        refine V_iload (k := 5) (q := 69) hC 5 rfl dX6_meet_67 rfl ?_
        obtain ⟨g8, hf⟩ := gd_some hf
        refine V_iald (n := 8) (q := 70) hC (iM16 (by decide)) rfl g8 h5 dX6_meet_69 rfl ?_
        refine V_iload_n (k := 1) (q := 71) hC 1 rfl dX6_meet_70 rfl ?_
        refine V_icmp_ne (tgt := 110) (q := 74) hC (hs _ _ _) h1 dX6_meet_71 (by decide) rfl (fun c9 => ?_) (fun c9 => ?_)
        · replace hf := (if_neg c9).symm.trans hf
          refine V_iinc (i := 6) (lv' := [(0, rf G 6 0), (1, iv v1), (2, iv v2), (3, iv v3), (4, iv v4), (5, iv v5), (6, iv (wr (v6 + 1)))]) (q := 113) hC 6 rfl [1, 2, 3, 4, 5, 6, 0] (by decide) rfl dX6_meet_110 rfl ?_
          refine V_goto (tgt := 48) hC dX6_meet_113 (by decide) ?_
          refine V_lsub [0, 1, 2, 3, 4, 5, 6] rfl ?_
          exact ih.2 hs h1 h2 h3 h4 h5 (Rg_wr _) hf
        · replace hf := (if_pos c9).symm.trans hf
          refine V_aload_n (k := 0) (q := 75) hC 0 rfl dX6_meet_74 rfl ?_
          refine V_getf (T := TX6) (k := 2) (q := 78) hC uX6_meet_6 rfl iD6 rfl (by decide) kX6_meet_f25 rfl dX6_meet_75 rfl ?_
          refine V_iload (k := 5) (q := 80) hC 5 rfl dX6_meet_78 rfl ?_
          refine V_iload (k := 6) (q := 82) hC 6 rfl dX6_meet_80 rfl ?_
          obtain ⟨r10, σ11, hc12, hf⟩ := cl_some hf
          refine V_cvi (st := []) (q := 85) (x0 := r10) (σ0 := σ11) hC (sX5_meetBehind l hG (by decide) h5 h6 hs hc12) (cwV 2 hC.2.2.2.2.1 gX6_meet_X5_meetBehind rfl rfl rfl (by decide +kernel) ⟨Nat.le_of_ble_eq_true rfl, Nat.le_of_ble_eq_true rfl⟩) ⟨_, rfl, rfl⟩ (iM5 (by decide)) (fun _ => ⟨_, rfl⟩) rfl rfl (Nat.le_of_ble_eq_true rfl) dX6_meet_82 rfl ⟨Nat.zero_le _, Nat.zero_le _⟩ (fun hr13 hs14 => ?_)
          refine V_if_eq (tgt := 110) (q := 88) hC hr13 dX6_meet_85 (by decide) rfl (fun c15 => ?_) (fun c15 => ?_)
          · replace hf := (if_pos c15).symm.trans hf
            refine V_iinc (i := 6) (lv' := [(0, rf G 6 0), (1, iv v1), (2, iv v2), (3, iv v3), (4, iv v4), (5, iv v5), (6, iv (wr (v6 + 1)))]) (q := 113) hC 6 rfl [1, 2, 3, 4, 5, 6, 0] (by decide) rfl dX6_meet_110 rfl ?_
            refine V_goto (tgt := 48) hC dX6_meet_113 (by decide) ?_
            refine V_lsub [0, 1, 2, 3, 4, 5, 6] rfl ?_
            exact ih.2 hs14 h1 h2 h3 h4 h5 (Rg_wr _) hf
          · replace hf := (if_neg c15).symm.trans hf
            refine V_iload_n (k := 3) (q := 89) hC 3 rfl dX6_meet_88 rfl ?_
            refine V_if_ne (tgt := 103) (q := 92) hC h3 dX6_meet_89 (by decide) rfl (fun c16 => ?_) (fun c16 => ?_)
            · replace hf := (if_neg c16).symm.trans hf
              refine V_iload (k := 4) (q := 105) hC 4 rfl dX6_meet_103 rfl ?_
              refine V_istore (i := 4) (lv' := [(0, rf G 6 0), (1, iv v1), (2, iv v2), (3, iv v3), (4, iv v4), (5, iv v5), (6, iv v6)]) (q := 107) hC [1, 2, 3, 4, 0, 5, 6] (by decide) rfl dX6_meet_105 rfl ?_
              refine V_iinc (i := 3) (lv' := [(0, rf G 6 0), (1, iv v1), (2, iv v2), (3, iv (wr (v3 + 1))), (4, iv v4), (5, iv v5), (6, iv v6)]) (q := 110) hC 3 rfl [1, 2, 3, 0, 4, 5, 6] (by decide) rfl dX6_meet_107 rfl ?_
              refine V_iinc (i := 6) (lv' := [(0, rf G 6 0), (1, iv v1), (2, iv v2), (3, iv (wr (v3 + 1))), (4, iv v4), (5, iv v5), (6, iv (wr (v6 + 1)))]) (q := 113) hC 6 rfl [1, 2, 3, 4, 5, 6, 0] (by decide) rfl dX6_meet_110 rfl ?_
              refine V_goto (tgt := 48) hC dX6_meet_113 (by decide) ?_
              refine V_lsub [0, 1, 2, 3, 4, 5, 6] rfl ?_
              exact ih.2 hs14 h1 h2 (Rg_wr _) h4 h5 (Rg_wr _) hf
            · replace hf := (if_pos c16).symm.trans hf
              refine V_bipush (q := 94) hC (by decide) dX6_meet_92 rfl ?_
              refine V_iload (k := 5) (q := 96) hC 5 rfl dX6_meet_94 rfl ?_
              refine V_imul (q := 97) hC dX6_meet_96 rfl ?_
              refine V_iload (k := 6) (q := 99) hC 6 rfl dX6_meet_97 rfl ?_
              refine V_iadd (q := 100) hC dX6_meet_99 rfl ?_
              refine V_goto (tgt := 105) hC dX6_meet_100 (by decide) ?_
              refine V_istore (i := 4) (lv' := [(0, rf G 6 0), (1, iv v1), (2, iv v2), (3, iv v3), (4, iv (wr ((wr (10 * v5)) + v6))), (5, iv v5), (6, iv v6)]) (q := 107) hC [1, 2, 3, 4, 0, 5, 6] (by decide) rfl dX6_meet_105 rfl ?_
              refine V_iinc (i := 3) (lv' := [(0, rf G 6 0), (1, iv v1), (2, iv v2), (3, iv (wr (v3 + 1))), (4, iv (wr ((wr (10 * v5)) + v6))), (5, iv v5), (6, iv v6)]) (q := 110) hC 3 rfl [1, 2, 3, 0, 4, 5, 6] (by decide) rfl dX6_meet_107 rfl ?_
              refine V_iinc (i := 6) (lv' := [(0, rf G 6 0), (1, iv v1), (2, iv v2), (3, iv (wr (v3 + 1))), (4, iv (wr ((wr (10 * v5)) + v6))), (5, iv v5), (6, iv (wr (v6 + 1)))]) (q := 113) hC 6 rfl [1, 2, 3, 4, 5, 6, 0] (by decide) rfl dX6_meet_110 rfl ?_
              refine V_goto (tgt := 48) hC dX6_meet_113 (by decide) ?_
              refine V_lsub [0, 1, 2, 3, 4, 5, 6] rfl ?_
              exact ih.2 hs14 h1 h2 (Rg_wr _) (Rg_wr _) h5 (Rg_wr _) hf
set_option maxHeartbeats 4000000 in
set_option maxRecDepth 100000 in
theorem sX6_meet (l : Launch) {G : GT} (hG : GI G) {v1 : Int} {v2 : Int} (h1 : Rg v1) (h2 : Rg v2) {σ : Hp} (hs : RgS σ) {r0 : Int × Hp} (hf : fX6_meet σ v1 v2 = some r0) : Cti l G yX6_meet wsX6_meet rmX6_meet [rf G 6 0, iv v1, iv v2] σ r0.1 r0.2 := by
  unfold fX6_meet at hf
  refine Cti_start (lv := [(0, rf G 6 0), (1, iv v1), (2, iv v2)]) (ret := (some .int)) (by decide +kernel) rfl hG (Nat.le_of_ble_eq_true rfl) rfl (fun p e s m args below meth c hC hr hlk => ?_)
  refine V_aload_n (k := 0) (q := 1) hC 0 rfl dX6_meet_0 rfl ?_
  refine V_getf (T := TX6) (k := 2) (q := 4) hC uX6_meet_6 rfl iD6 rfl (by decide) kX6_meet_f25 rfl dX6_meet_1 rfl ?_
  refine V_iload_n (k := 1) (q := 5) hC 1 rfl dX6_meet_4 rfl ?_
  refine V_cvi (st := []) (q := 8) hC (sX5_hasTree l hG (by decide) h1 hs) (cwV 1 hC.2.2.2.2.1 gX6_meet_X5_hasTree rfl rfl rfl (by decide +kernel) ⟨Nat.le_of_ble_eq_true rfl, Nat.le_of_ble_eq_true rfl⟩) ⟨_, rfl, rfl⟩ (iM5 (by decide)) (fun _ => ⟨_, rfl⟩) rfl rfl (Nat.le_of_ble_eq_true rfl) dX6_meet_5 rfl ⟨Nat.zero_le _, Nat.zero_le _⟩ (fun hr1 _ => ?_)
  refine V_if_eq (tgt := 18) (q := 11) hC hr1 dX6_meet_8 (by decide) rfl (fun c2 => ?_) (fun c2 => ?_)
  · replace hf := (if_pos c2).symm.trans hf
    refine V_ldc (q := 20) (n := (-1000001)) hC (by decide) kX6_meet_c62 dX6_meet_18 rfl ?_
    exact V_iret hC hr hlk (re_1 hf) (re_2 hf) (Rg_c rfl) hs dX6_meet_20
  · replace hf := (if_neg c2).symm.trans hf
    refine V_iload_n (k := 2) (q := 12) hC 2 rfl dX6_meet_11 rfl ?_
    refine V_csi (st := []) (q := 15) hC (sX6_isChoice l hG h2 hs) (va_cwS 1 hC.2.2.2.2.1 gX6_meet_X6_isChoice rfl rfl rfl (by decide +kernel) ⟨Nat.le_of_ble_eq_true rfl, Nat.le_of_ble_eq_true rfl⟩) rfl rfl (Nat.le_of_ble_eq_true rfl) dX6_meet_12 rfl ⟨Nat.zero_le _, Nat.zero_le _⟩ (fun hr3 _ => ?_)
    refine V_if_ne (tgt := 21) (q := 18) hC hr3 dX6_meet_15 (by decide) rfl (fun c4 => ?_) (fun c4 => ?_)
    · replace hf := (if_neg c4).symm.trans hf
      refine V_iconst (q := 22) hC dX6_meet_21 rfl ?_
      refine V_istore_n (k := 3) (i := 3) (lv' := [(0, rf G 6 0), (1, iv v1), (2, iv v2), (3, iv 0)]) (q := 23) hC [1, 2, 3, 0] rfl (by decide) rfl dX6_meet_22 rfl ?_
      refine V_ldc (q := 25) (n := (-1000000)) hC (by decide) kX6_meet_c219 dX6_meet_23 rfl ?_
      refine V_istore (i := 4) (lv' := [(0, rf G 6 0), (1, iv v1), (2, iv v2), (3, iv 0), (4, iv (-1000000))]) (q := 27) hC [1, 2, 3, 4, 0] (by decide) rfl dX6_meet_25 rfl ?_
      refine V_iconst (q := 28) hC dX6_meet_27 rfl ?_
      refine V_istore (i := 5) (lv' := [(0, rf G 6 0), (1, iv v1), (2, iv v2), (3, iv 0), (4, iv (-1000000)), (5, iv 0)]) (q := 30) hC [1, 2, 3, 4, 5, 0] (by decide) rfl dX6_meet_28 rfl ?_
      refine V_lsub [0, 1, 2, 3, 4, 5] rfl ?_
      exact (tlX6_meet_30 hG hC hr hlk FU).1 hs h1 h2 (Rg_c rfl) (Rg_c rfl) (Rg_c rfl) hf
    · replace hf := (if_pos c4).symm.trans hf
      refine V_ldc (q := 20) (n := (-1000001)) hC (by decide) kX6_meet_c62 dX6_meet_18 rfl ?_
      exact V_iret hC hr hlk (re_1 hf) (re_2 hf) (Rg_c rfl) hs dX6_meet_20
/-! X6_rings -/
theorem kX6_rings_f25 : Cond.fieldLink RX6 25 "BarkNames" "now" "LBarkNames$Wood;" ∈ wsX6_rings := by decide +kernel
theorem uX6_rings_6 : ∀ w ∈ u_ws RX6 TX6 10, w ∈ wsX6_rings := by decide +kernel
theorem kX6_rings_c62 : Cond.constant RX6 62 (-1000001) ∈ wsX6_rings := by decide +kernel
theorem kX6_rings_f46 : Cond.fieldLink RX6 46 "BarkNames" "reading" "LBarkNames$Reading;" ∈ wsX6_rings := by decide +kernel
theorem kX6_rings_f134 : Cond.fieldLink RX6 134 "BarkNames$Wood" "cutCount" "I" ∈ wsX6_rings := by decide +kernel
theorem uX6_rings_5 : ∀ w ∈ u_ws RX5 TX5 12, w ∈ wsX6_rings := by decide +kernel
theorem kX6_rings_m257 : Cond.methodLink RX6 257 Lib.Math.max.name ∈ wsX6_rings := by decide +kernel
theorem kX6_rings_smax : Cond.static Lib.Math.max.name ∈ wsX6_rings := by decide +kernel
theorem kX6_rings_iMath : Cond.initialized "java/lang/Math" ∈ wsX6_rings := by decide +kernel
theorem kX6_rings_kmax : Cond.code Lib.Math.max.name Lib.Math.max.code 2 (some .int) ∈ wsX6_rings := by decide +kernel
abbrev rmX6_rings : Room := { frames := 5, cells := 0, slots := 0, locals := 111 }
set_option maxHeartbeats 4000000 in
set_option maxRecDepth 100000 in
theorem tlX6_rings_50 {p : Program} {l : Launch} {e : Env} {s : State} {m : MethodId} {args : Array Value} {below : List Frame} {meth : Method} {c : Code} {G : GT} (hG : GI G) (hC : CX p s m args c cX6_rings 8 RX6 wsX6_rings G (AA G)) (hr : meth.sig.returnType = (some .int)) (hlk : meth.locks = false) {r0 : Int × Hp} : ∀ n : Nat, (∀ {σ : Hp} (hs : RgS σ) {v2 : Int} {v3 : Int} {v4 : Int} {v5 : Int} {v6 : Int} (h2 : Rg v2) (h3 : Rg v3) (h4 : Rg v4) (h5 : Rg v5) (h6 : Rg v6) (hf : lX6_rings_50 n σ v2 v3 v4 v5 v6 = some r0), VV p l e (headSpec wsX6_rings rmX6_rings).room s m args below meth c (MQ below (QI G r0.1 r0.2) args s 0 0 (AA G)) G (AA G) 0 0 8 σ 50 [(0, rf G 6 0), (2, iv v2), (3, iv v3), (4, iv v4), (5, iv v5), (6, iv v6)] []) := by
  intro n
  induction n with
  | zero =>
    exact by intro σ hs v2 v3 v4 v5 v6 h2 h3 h4 h5 h6 hf; exact absurd (show (none : Option (Int × Hp)) = some r0 from hf) (fun z => by cases z)
  | succ n ih =>
    intro σ hs v2 v3 v4 v5 v6 h2 h3 h4 h5 h6 hf
    replace hf := (lX6_rings_50_e0 n σ v2 v3 v4 v5 v6).symm.trans hf
    refine V_iload (k := 6) (q := 52) hC 5 rfl dX6_rings_50 rfl ?_
    refine V_aload_n (k := 0) (q := 53) hC 0 rfl dX6_rings_52 rfl ?_
    refine V_getf (T := TX6) (k := 2) (q := 56) hC uX6_rings_6 rfl iD6 rfl (by decide) kX6_rings_f25 rfl dX6_rings_53 rfl ?_
    refine V_getf (T := TX5) (k := 11) (q := 59) hC uX6_rings_5 rfl (iM5 (by decide)) rfl (by decide) kX6_rings_f134 rfl dX6_rings_56 rfl ?_
    refine V_icmp_ge (tgt := 111) (q := 62) hC h6 (hs _ _ _) dX6_rings_59 (by decide) rfl (fun c15 => ?_) (fun c15 => ?_)
    · replace hf := (if_pos c15).symm.trans hf
      refine V_iload_n (k := 2) (q := 112) hC 1 rfl dX6_rings_111 rfl ?_
      refine V_if_ne (tgt := 120) (q := 115) hC h2 dX6_rings_112 (by decide) rfl (fun c16 => ?_) (fun c16 => ?_)
      · replace hf := (if_neg c16).symm.trans hf
        refine V_iload (k := 5) (q := 122) hC 4 rfl dX6_rings_120 rfl ?_
        exact V_iret hC hr hlk (re_1 hf) (re_2 hf) h5 hs dX6_rings_122
      · replace hf := (if_pos c16).symm.trans hf
        refine V_iload (k := 4) (q := 117) hC 3 rfl dX6_rings_115 rfl ?_
        refine V_goto (tgt := 122) hC dX6_rings_117 (by decide) ?_
        exact V_iret hC hr hlk (re_1 hf) (re_2 hf) h4 hs dX6_rings_122
    · replace hf := (if_neg c15).symm.trans hf
      refine V_iload_n (k := 3) (q := 63) hC 2 rfl dX6_rings_62 rfl ?_
      refine V_iload (k := 6) (q := 65) hC 5 rfl dX6_rings_63 rfl ?_
      refine V_csi (st := []) (q := 68) hC (sX6_isIn l hG h3 h6 hs) (va_cwS 2 hC.2.2.2.2.1 gX6_rings_X6_isIn rfl rfl rfl (by decide +kernel) ⟨Nat.le_of_ble_eq_true rfl, Nat.le_of_ble_eq_true rfl⟩) rfl rfl (Nat.le_of_ble_eq_true rfl) dX6_rings_65 rfl ⟨Nat.zero_le _, Nat.zero_le _⟩ (fun hr17 _ => ?_)
      refine V_if_eq (tgt := 105) (q := 71) hC hr17 dX6_rings_68 (by decide) rfl (fun c18 => ?_) (fun c18 => ?_)
      · replace hf := (if_pos c18).symm.trans hf
        refine V_iinc (i := 6) (lv' := [(0, rf G 6 0), (2, iv v2), (3, iv v3), (4, iv v4), (5, iv v5), (6, iv (wr (v6 + 1)))]) (q := 108) hC 5 rfl [1, 2, 3, 4, 5, 0] (by decide) rfl dX6_rings_105 rfl ?_
        refine V_goto (tgt := 50) hC dX6_rings_108 (by decide) ?_
        refine V_lsub [0, 1, 2, 3, 4, 5] rfl ?_
        exact ih hs h2 h3 h4 h5 (Rg_wr _) hf
      · replace hf := (if_neg c18).symm.trans hf
        refine V_aload_n (k := 0) (q := 72) hC 0 rfl dX6_rings_71 rfl ?_
        refine V_getf (T := TX6) (k := 6) (q := 75) hC uX6_rings_6 rfl iD6 rfl (by decide) kX6_rings_f46 rfl dX6_rings_72 rfl ?_
        refine V_iload (k := 6) (q := 77) hC 5 rfl dX6_rings_75 rfl ?_
        refine V_iload_n (k := 3) (q := 78) hC 2 rfl dX6_rings_77 rfl ?_
        obtain ⟨r19, σ20, hc21, hf⟩ := cl_some hf
        refine V_cvi (st := []) (q := 81) (x0 := r19) (σ0 := σ20) hC (sX2_reached l hG h6 h3 hs hc21) (cwV 2 hC.2.2.2.2.1 gX6_rings_X2_reached rfl rfl rfl (by decide +kernel) ⟨Nat.le_of_ble_eq_true rfl, Nat.le_of_ble_eq_true rfl⟩) ⟨_, rfl, rfl⟩ iD2 (fun _ => ⟨_, rfl⟩) rfl rfl (Nat.le_of_ble_eq_true rfl) dX6_rings_78 rfl ⟨Nat.zero_le _, Nat.zero_le _⟩ (fun hr22 hs23 => ?_)
        refine V_istore (i := 7) (lv' := [(0, rf G 6 0), (2, iv v2), (3, iv v3), (4, iv v4), (5, iv v5), (6, iv v6), (7, iv r19)]) (q := 83) hC [1, 2, 3, 4, 5, 6, 0] (by decide) rfl dX6_rings_81 rfl ?_
        refine V_iload_n (k := 3) (q := 84) hC 2 rfl dX6_rings_83 rfl ?_
        refine V_iload (k := 7) (q := 86) hC 6 rfl dX6_rings_84 rfl ?_
        refine V_iconst (q := 87) hC dX6_rings_86 rfl ?_
        refine V_ixor (q := 88) hC dX6_rings_87 rfl ?_
        refine V_iand (q := 89) hC dX6_rings_88 rfl ?_
        refine V_istore_n (k := 3) (i := 3) (lv' := [(0, rf G 6 0), (2, iv v2), (3, iv (qand v3 (qxor r19 (-1)))), (4, iv v4), (5, iv v5), (6, iv v6), (7, iv r19)]) (q := 90) hC [1, 2, 0, 3, 4, 5, 6] rfl (by decide) rfl dX6_rings_89 rfl ?_
        refine V_iinc (i := 4) (lv' := [(0, rf G 6 0), (2, iv v2), (3, iv (qand v3 (qxor r19 (-1)))), (4, iv (wr (v4 + 1))), (5, iv v5), (6, iv v6), (7, iv r19)]) (q := 93) hC 3 rfl [1, 2, 3, 0, 4, 5, 6] (by decide) rfl dX6_rings_90 rfl ?_
        refine V_iload (k := 5) (q := 95) hC 4 rfl dX6_rings_93 rfl ?_
        refine V_iload (k := 7) (q := 97) hC 6 rfl dX6_rings_95 rfl ?_
        refine V_csi (st := [iv v5]) (q := 100) hC (sJ6_bitCount_0f7a4 l hG hr22 hs23) (va_cwS 1 hC.2.2.2.2.1 gX6_rings_J6_bitCount_0f7a4 rfl rfl rfl (by decide +kernel) ⟨Nat.le_of_ble_eq_true rfl, Nat.le_of_ble_eq_true rfl⟩) rfl rfl (Nat.le_of_ble_eq_true rfl) dX6_rings_97 rfl ⟨Nat.zero_le _, Nat.zero_le _⟩ (fun hr24 _ => ?_)
        refine V_mmax (q := 103) hC h5 hr24 kX6_rings_m257 kX6_rings_smax kX6_rings_iMath kX6_rings_kmax ⟨Nat.le_of_ble_eq_true rfl, Nat.le_of_ble_eq_true rfl, Nat.zero_le _, Nat.zero_le _⟩ dX6_rings_100 rfl ?_
        refine V_istore (i := 5) (lv' := [(0, rf G 6 0), (2, iv v2), (3, iv (qand v3 (qxor r19 (-1)))), (4, iv (wr (v4 + 1))), (5, iv (qmax v5 (fJ6_bitCount_0f7a4 r19))), (6, iv v6), (7, iv r19)]) (q := 105) hC [1, 2, 3, 4, 0, 5, 6] (by decide) rfl dX6_rings_103 rfl ?_
        refine V_iinc (i := 6) (lv' := [(0, rf G 6 0), (2, iv v2), (3, iv (qand v3 (qxor r19 (-1)))), (4, iv (wr (v4 + 1))), (5, iv (qmax v5 (fJ6_bitCount_0f7a4 r19))), (6, iv (wr (v6 + 1))), (7, iv r19)]) (q := 108) hC 5 rfl [1, 2, 3, 4, 5, 0, 6] (by decide) rfl dX6_rings_105 rfl ?_
        refine V_goto (tgt := 50) hC dX6_rings_108 (by decide) ?_
        refine V_lsub [0, 1, 2, 3, 4, 5] rfl ?_
        exact ih hs23 h2 (Rg_qand _ _) (Rg_wr _) (Rg_qmax h5 hr24) (Rg_wr _) hf
set_option maxHeartbeats 4000000 in
set_option maxRecDepth 100000 in
theorem sX6_rings (l : Launch) {G : GT} (hG : GI G) {v1 : Int} {v2 : Int} (h1 : Rg v1) (h2 : Rg v2) {σ : Hp} (hs : RgS σ) {r0 : Int × Hp} (hf : fX6_rings σ v1 v2 = some r0) : Cti l G yX6_rings wsX6_rings rmX6_rings [rf G 6 0, iv v1, iv v2] σ r0.1 r0.2 := by
  unfold fX6_rings at hf
  refine Cti_start (lv := [(0, rf G 6 0), (1, iv v1), (2, iv v2)]) (ret := (some .int)) (by decide +kernel) rfl hG (Nat.le_of_ble_eq_true rfl) rfl (fun p e s m args below meth c hC hr hlk => ?_)
  refine V_aload_n (k := 0) (q := 1) hC 0 rfl dX6_rings_0 rfl ?_
  refine V_getf (T := TX6) (k := 2) (q := 4) hC uX6_rings_6 rfl iD6 rfl (by decide) kX6_rings_f25 rfl dX6_rings_1 rfl ?_
  refine V_iload_n (k := 1) (q := 5) hC 1 rfl dX6_rings_4 rfl ?_
  refine V_cvi (st := []) (q := 8) hC (sX5_hasTree l hG (by decide) h1 hs) (cwV 1 hC.2.2.2.2.1 gX6_rings_X5_hasTree rfl rfl rfl (by decide +kernel) ⟨Nat.le_of_ble_eq_true rfl, Nat.le_of_ble_eq_true rfl⟩) ⟨_, rfl, rfl⟩ (iM5 (by decide)) (fun _ => ⟨_, rfl⟩) rfl rfl (Nat.le_of_ble_eq_true rfl) dX6_rings_5 rfl ⟨Nat.zero_le _, Nat.zero_le _⟩ (fun hr1 _ => ?_)
  refine V_if_eq (tgt := 18) (q := 11) hC hr1 dX6_rings_8 (by decide) rfl (fun c2 => ?_) (fun c2 => ?_)
  · replace hf := (if_pos c2).symm.trans hf
    refine V_ldc (q := 20) (n := (-1000001)) hC (by decide) kX6_rings_c62 dX6_rings_18 rfl ?_
    exact V_iret hC hr hlk (re_1 hf) (re_2 hf) (Rg_c rfl) hs dX6_rings_20
  · replace hf := (if_neg c2).symm.trans hf
    refine V_iload_n (k := 2) (q := 12) hC 2 rfl dX6_rings_11 rfl ?_
    refine V_csi (st := []) (q := 15) hC (sX6_isChoice l hG h2 hs) (va_cwS 1 hC.2.2.2.2.1 gX6_rings_X6_isChoice rfl rfl rfl (by decide +kernel) ⟨Nat.le_of_ble_eq_true rfl, Nat.le_of_ble_eq_true rfl⟩) rfl rfl (Nat.le_of_ble_eq_true rfl) dX6_rings_12 rfl ⟨Nat.zero_le _, Nat.zero_le _⟩ (fun hr3 _ => ?_)
    refine V_if_ne (tgt := 21) (q := 18) hC hr3 dX6_rings_15 (by decide) rfl (fun c4 => ?_) (fun c4 => ?_)
    · replace hf := (if_neg c4).symm.trans hf
      refine V_aload_n (k := 0) (q := 22) hC 0 rfl dX6_rings_21 rfl ?_
      refine V_getf (T := TX6) (k := 6) (q := 25) hC uX6_rings_6 rfl iD6 rfl (by decide) kX6_rings_f46 rfl dX6_rings_22 rfl ?_
      refine V_aload_n (k := 0) (q := 26) hC 0 rfl dX6_rings_25 rfl ?_
      refine V_getf (T := TX6) (k := 2) (q := 29) hC uX6_rings_6 rfl iD6 rfl (by decide) kX6_rings_f25 rfl dX6_rings_26 rfl ?_
      obtain ⟨r5, σ6, hc7, hf⟩ := cl_some hf
      refine V_cvv (st := []) (q := 32) (σ0 := σ6) hC (sX2_lookAt l hG (by decide) hs hc7) (cwV 1 hC.2.2.2.2.1 gX6_rings_X2_lookAt rfl rfl rfl (by decide +kernel) ⟨Nat.le_of_ble_eq_true rfl, Nat.le_of_ble_eq_true rfl⟩) ⟨_, rfl, rfl⟩ iD2 (fun _ => ⟨_, rfl⟩) rfl rfl (Nat.le_of_ble_eq_true rfl) dX6_rings_29 rfl ⟨Nat.zero_le _, Nat.zero_le _⟩ (fun hs9 => ?_)
      refine V_aload_n (k := 0) (q := 33) hC 0 rfl dX6_rings_32 rfl ?_
      refine V_getf (T := TX6) (k := 2) (q := 36) hC uX6_rings_6 rfl iD6 rfl (by decide) kX6_rings_f25 rfl dX6_rings_33 rfl ?_
      refine V_iload_n (k := 1) (q := 37) hC 1 rfl dX6_rings_36 rfl ?_
      obtain ⟨r10, σ11, hc12, hf⟩ := cl_some hf
      refine V_cvi (st := []) (q := 40) (x0 := r10) (σ0 := σ11) hC (sX5_readableOn l hG (by decide) h1 hs9 hc12) (cwV 1 hC.2.2.2.2.1 gX6_rings_X5_readableOn rfl rfl rfl (by decide +kernel) ⟨Nat.le_of_ble_eq_true rfl, Nat.le_of_ble_eq_true rfl⟩) ⟨_, rfl, rfl⟩ (iM5 (by decide)) (fun _ => ⟨_, rfl⟩) rfl rfl (Nat.le_of_ble_eq_true rfl) dX6_rings_37 rfl ⟨Nat.zero_le _, Nat.zero_le _⟩ (fun hr13 hs14 => ?_)
      refine V_istore_n (k := 3) (i := 3) (lv' := [(0, rf G 6 0), (1, iv v1), (2, iv v2), (3, iv r10)]) (q := 41) hC [1, 2, 3, 0] rfl (by decide) rfl dX6_rings_40 rfl ?_
      refine V_iconst (q := 42) hC dX6_rings_41 rfl ?_
      refine V_istore (i := 4) (lv' := [(0, rf G 6 0), (1, iv v1), (2, iv v2), (3, iv r10), (4, iv 0)]) (q := 44) hC [1, 2, 3, 4, 0] (by decide) rfl dX6_rings_42 rfl ?_
      refine V_iconst (q := 45) hC dX6_rings_44 rfl ?_
      refine V_istore (i := 5) (lv' := [(0, rf G 6 0), (1, iv v1), (2, iv v2), (3, iv r10), (4, iv 0), (5, iv 0)]) (q := 47) hC [1, 2, 3, 4, 5, 0] (by decide) rfl dX6_rings_45 rfl ?_
      refine V_iconst (q := 48) hC dX6_rings_47 rfl ?_
      refine V_istore (i := 6) (lv' := [(0, rf G 6 0), (1, iv v1), (2, iv v2), (3, iv r10), (4, iv 0), (5, iv 0), (6, iv 0)]) (q := 50) hC [1, 2, 3, 4, 5, 6, 0] (by decide) rfl dX6_rings_48 rfl ?_
      refine V_lsub [0, 2, 3, 4, 5, 6] rfl ?_
      exact (tlX6_rings_50 hG hC hr hlk FU) hs14 h2 hr13 (Rg_c rfl) (Rg_c rfl) (Rg_c rfl) hf
    · replace hf := (if_pos c4).symm.trans hf
      refine V_ldc (q := 20) (n := (-1000001)) hC (by decide) kX6_rings_c62 dX6_rings_18 rfl ?_
      exact V_iret hC hr hlk (re_1 hf) (re_2 hf) (Rg_c rfl) hs dX6_rings_20
/-! X6_isTold -/
abbrev rmX6_isTold : Room := { frames := 0, cells := 0, slots := 0, locals := 0 }
set_option maxHeartbeats 4000000 in
set_option maxRecDepth 100000 in
theorem sX6_isTold (l : Launch) {G : GT} (hG : GI G) {v0 : Int} (h0 : Rg v0) {σ : Hp} (hs : RgS σ) : Cti l G yX6_isTold wsX6_isTold rmX6_isTold [iv v0] σ (fX6_isTold v0) σ := by
  obtain ⟨x0, hf⟩ : ∃ x, fX6_isTold v0 = x := ⟨_, rfl⟩
  rw [hf]
  unfold fX6_isTold at hf
  refine Cti_start (lv := [(0, iv v0)]) (ret := (some .boolean)) (by decide +kernel) rfl hG (Nat.le_of_ble_eq_true rfl) rfl (fun p e s m args below meth c hC hr hlk => ?_)
  refine V_iload_n (k := 0) (q := 1) hC 0 rfl dX6_isTold_0 rfl ?_
  refine V_iconst (q := 2) hC dX6_isTold_1 rfl ?_
  refine V_icmp_lt (tgt := 15) (q := 5) hC h0 (Rg_c rfl) dX6_isTold_2 (by decide) rfl (fun c1 => ?_) (fun c1 => ?_)
  · replace hf := (if_pos c1).symm.trans hf
    refine V_iconst (q := 16) hC dX6_isTold_15 rfl ?_
    exact V_zret hC hr hlk (Or.inl rfl) hf rfl hs dX6_isTold_16
  · replace hf := (if_neg c1).symm.trans hf
    refine V_iload_n (k := 0) (q := 6) hC 0 rfl dX6_isTold_5 rfl ?_
    refine V_bipush (q := 8) hC (by decide) dX6_isTold_6 rfl ?_
    refine V_icmp_gt (tgt := 15) (q := 11) hC h0 (Rg_c rfl) dX6_isTold_8 (by decide) rfl (fun c2 => ?_) (fun c2 => ?_)
    · replace hf := (if_pos c2).symm.trans hf
      refine V_iconst (q := 16) hC dX6_isTold_15 rfl ?_
      exact V_zret hC hr hlk (Or.inl rfl) hf rfl hs dX6_isTold_16
    · replace hf := (if_neg c2).symm.trans hf
      refine V_iconst (q := 12) hC dX6_isTold_11 rfl ?_
      refine V_goto (tgt := 16) hC dX6_isTold_12 (by decide) ?_
      exact V_zret hC hr hlk (Or.inr rfl) hf rfl hs dX6_isTold_16
