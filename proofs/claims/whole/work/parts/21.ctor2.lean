/-! the two constructors that make others -/
abbrev PWr (cI cW : ClassId) (h ar : Nat) (r : Nat → Option Nat) (i : Nat) (q : Nat → Nat) (a : Nat → Nat → Nat) : va_W := [(h, .inr (1, [.ref ar, .int 0, .int 0])), (ar, .inl (cW, 24, .inr (.inr (.inr (.inr r)))))] ++ (List.range i).flatMap (fun j => wd5 cI (q j) (a j))
theorem PWr_set (cI cW : ClassId) (h ar : Nat) (r r' : Nat → Option Nat) (i qn : Nat) (q an : Nat → Nat) (a : Nat → Nat → Nat) : (PWr cI cW h ar r i q a ++ wd5 cI qn an).set 1 (ar, .inl (cW, 24, .inr (.inr (.inr (.inr r'))))) = PWr cI cW h ar r' (i + 1) (fnx q i qn) (fnx a i an) := by
  unfold PWr
  rw [flat_s, fnx_at, fnx_at, flat_cg (f := fun j => wd5 cI (fnx q i qn j) (fnx a i an j)) (g := fun j => wd5 cI (q j) (a j)) (fun k hk => by rw [fnx_ne (by omega), fnx_ne (by omega)])]
  rfl
theorem head_at {α : Type} (X : List α) (y : α) (t : List α) : (X ++ y :: t)[X.length]? = some y := by simp
theorem refsF_step {i qn : Nat} {q : Nat → Nat} : va_up (refsF i q) i (some qn) = refsF (i + 1) (fnx q i qn) := by
  rw [refsF_cg (f := q) (g := fnx q i qn) (fun k hk => (fnx_ne (by omega)).symm)]
  exact refsF_up (fnx_at q i qn)
abbrev rmX1_init : Room := { frames := 2, cells := 193, slots := 1368, locals := 32 }
set_option maxHeartbeats 4000000 in
set_option maxRecDepth 100000 in
/-- Past(): its 24 woods -/
theorem ctX1_init (l : Launch) (D : va_G) (cI cZ : ClassId) (h0 sz : Nat) : Met l yX1_init wsX1_init rmX1_init (PcN D cI cZ h0 sz (.inr (1, [.null, .int 0, .int 0]))) (va_Qv (fun (_ : Nat × ClassId × (Nat → Nat) × (Nat → Nat → Nat)) => True) (fun u t => va_P D vwCl (wd1 cI u.2.1 h0 u.1 u.2.2.1 u.2.2.2) t.heap ∧ va_D (va_A [(h0, .inr (1, [.null, .int 0, .int 0]))] sz) (wd1 cI u.2.1 h0 u.1 u.2.2.1 u.2.2.2) ∧ va_K D vwCl [(u.2.1, .object "BarkNames$Wood")] t) (va_A [(h0, .inr (1, [.null, .int 0, .int 0]))] sz)) 193 1368 (va_A [(h0, .inr (1, [.null, .int 0, .int 0]))] sz) := by
  refine Met.ofW (cc := cX1_init) (maxL := 2) (ret := none) (by decide +kernel) rfl ?_
  intro p e s m args below meth c s₁ B hml hv
  obtain ⟨rfl, hsz, hP, hGN⟩ := hv
  have hx := B.exec
  have hb := B.bytes
  have hr := B.returns
  have hts := atoms_spec (ws := wsX1_init) B.pre
  have hown : s.vm.findClass RX1 = some m.cls := findClass_of_methodNamed B.named
  have hlocks := B.notSynchronized
  have hin : meth.name = "<init>" := (name_of_methodNamed B.named B.method).1
  subst hsz
  have hD : va_D (va_A [(h0, .inr (1, [.null, .int 0, .int 0]))] s.heap.size) [(h0, .inr (1, [.null, .int 0, .int 0]))] := va_D1 _ _ (va_A.in (k := 0) rfl)
  generalize hAe : va_A [(h0, .inr (1, [.null, .int 0, .int 0]))] s.heap.size = A at hD ⊢
  have hA : ∀ q : Nat, s.heap.size ≤ q → A q := fun q h => by rw [← hAe]; exact Or.inr h
  have hS : va_S A s.heap s.heap [] := va_S.rf
  have hK := hGN.1
  have hl := lv_entry ([.ref h0]) (n := 2) (Nat.le_of_ble_eq_true rfl)
  rw [lg_entry_eq]
  generalize (lg_sl ([.ref h0]) ++ List.replicate (2 - (lg_sl ([.ref h0])).length) Slot.unset).toArray = ls at hl ⊢
  have hl : lv_has ls 2 [(0, .ref h0)] := hl
  refine lv_aload_n hx hb dX1_init_0 rfl (lv_at hl 0 rfl) ?_
  refine W.objInit hx hb hown (hts (.methodLink RX1 3 objectInit) (by decide +kernel)) (hts (.instanceMethod objectInit) (by decide +kernel)) (hts (.code objectInit ⟨#[0xb1]⟩ 1 none) (by decide +kernel)) rfl (by rw [hml]; exact hl.1) rfl dX1_init_1 (Nat.le_of_ble_eq_true rfl) (Nat.le_of_ble_eq_true rfl) ?_
  refine W.eq (g2 := F0 m 4 ls []) rfl ?_
  refine lv_aload_n hx hb dX1_init_4 rfl (lv_at hl 0 rfl) ?_
  refine lv_bipush (v := 24) hx hb dX1_init_5 (by decide) ?_
  have h_1 : 0 + 1 ≤ 193 := by decide
  have h_2 : 0 + 24 ≤ 1368 := by decide
  refine va_newq (N' := 24) hx hb hown (hts (.classLink RX1 9 RX5) (by decide +kernel)) hGN.2.2.2 hK hP hD hS hA (by decide) rfl (Nat.le_of_ble_eq_true rfl) h_1 h_2 dX1_init_7 (fun ar cW H hK hP hD hS => ?_)
  have hP : va_P D vwCl [(h0, .inr (1, [.null, .int 0, .int 0])), (ar, .inl (cW, 24, .inr (.inr (.inr (.inr (fun _ => none))))))] H := hP
  have hD : va_D A [(h0, .inr (1, [.null, .int 0, .int 0])), (ar, .inl (cW, 24, .inr (.inr (.inr (.inr (fun _ => none))))))] := hD
  refine va_putF (v := .ref ar) (ty := .array (.object "BarkNames$Wood")) (D := D) (ci := 1) (C := RX1) (T := TX1) (N := 3) hx hb hts (by decide +kernel) tyX1 tyX1_ok nmX1 hown hK hP hD hS 0 rfl rfl 0 (by decide) (hts (.fieldLink RX1 11 "BarkNames$Past" "woods" "[LBarkNames$Wood;") (by decide +kernel)) (fun _ h9 => h9) rfl hin rfl (by decide +kernel) rfl rfl (Nat.le_of_ble_eq_true rfl) dX1_init_10 (fun H locs hP hD hS => ?_)
  have hP : va_P D vwCl (PWr cI cW h0 ar (refsF 0 (fun _ => 0)) 0 (fun _ => 0) (fun _ _ => 0)) H := by rw [refsF_0]; exact hP
  have hD : va_D A (PWr cI cW h0 ar (refsF 0 (fun _ => 0)) 0 (fun _ => 0) (fun _ _ => 0)) := by rw [refsF_0]; exact hD
  refine lv_iconst (v := 0) hx hb dX1_init_13 (by decide) ?_
  refine lv_istore_n (lv' := [(1, .int 0), (0, .ref h0)]) hx hb dX1_init_14 rfl hl (by decide) rfl (fun ls hl => ?_)
  refine W.widen (k := 1 + 8 * 0) (n := 24 + 56 * 0) (by decide) (by decide) ?_
  have key : ∀ (n i : Nat), i + n = 24 → ∀ (q : Nat → Nat) (a : Nat → Nat → Nat) (H : Heap) (locs : List Loc) (ls : Array Slot), va_P D vwCl (PWr cI cW h0 ar (refsF i q) i q a) H → va_D A (PWr cI cW h0 ar (refsF i q) i q a) → va_S A s.heap H locs → lv_has ls 2 [(1, .int (nI i)), (0, .ref h0)] → W p l e (headSpec wsX1_init rmX1_init).room s m #[.ref h0] below meth c H locs (1 + 8 * i) (24 + 56 * i) (MQ below (va_Qv (fun (_ : Nat × ClassId × (Nat → Nat) × (Nat → Nat → Nat)) => True) (fun u t => va_P D vwCl (wd1 cI u.2.1 h0 u.1 u.2.2.1 u.2.2.2) t.heap ∧ va_D (va_A [(h0, .inr (1, [.null, .int 0, .int 0]))] s.heap.size) (wd1 cI u.2.1 h0 u.1 u.2.2.1 u.2.2.2) ∧ va_K D vwCl [(u.2.1, .object "BarkNames$Wood")] t) (va_A [(h0, .inr (1, [.null, .int 0, .int 0]))] s.heap.size)) #[.ref h0] s 193 1368 (va_A [(h0, .inr (1, [.null, .int 0, .int 0]))] s.heap.size)) (F0 m 15 ls []) := by
    subst hAe
    intro n
    induction n with
    | zero =>
      intro i hi q a H locs ls hP hD hS hl
      obtain rfl : i = 24 := by omega
      refine lv_iload_n hx hb dX1_init_15 rfl (lv_at hl 0 rfl) ?_
      refine lv_aload_n hx hb dX1_init_16 rfl (lv_at hl 1 rfl) ?_
      refine va_get (D := D) (ci := 1) (C := RX1) (T := TX1) (N := 3) hx hb hts (by decide +kernel) hown hK hP 0 rfl rfl 0 (by decide) (hts (.fieldLink RX1 11 "BarkNames$Past" "woods" "[LBarkNames$Wood;") (by decide +kernel)) (fun _ h9 => h9) rfl dX1_init_17 ?_
      refine va_alen hx hb hK hP 1 2 rfl rfl (v := nI 24) rfl dX1_init_20 ?_
      refine lv_icmp_ge (tgt := 43) hx hb dX1_init_21 (by decide) (fun _ => ?_) (fun c9 => absurd (nI_le (Nat.le_refl 24) (by decide)) c9)
      exact W.vret hx hb hr (fun t ht hW => ⟨⟨(ar, cW, q, a), rfl, trivial, by show va_P D vwCl _ t.heap; rw [ht]; exact hP, hD, va_K.moved hW.alike (hK.sub [2] rfl)⟩, hS.F ht⟩) hS.2.2 dX1_init_43
    | succ n ih =>
      intro i hi q a H locs ls hP hD hS hl
      refine lv_iload_n hx hb dX1_init_15 rfl (lv_at hl 0 rfl) ?_
      refine lv_aload_n hx hb dX1_init_16 rfl (lv_at hl 1 rfl) ?_
      refine va_get (D := D) (ci := 1) (C := RX1) (T := TX1) (N := 3) hx hb hts (by decide +kernel) hown hK hP 0 rfl rfl 0 (by decide) (hts (.fieldLink RX1 11 "BarkNames$Past" "woods" "[LBarkNames$Wood;") (by decide +kernel)) (fun _ h9 => h9) rfl dX1_init_17 ?_
      refine va_alen hx hb hK hP 1 2 rfl rfl (v := nI 24) rfl dX1_init_20 ?_
      refine lv_icmp_ge (tgt := 43) hx hb dX1_init_21 (by decide) (fun c9 => absurd c9 (nI_ge (by omega) (by decide))) (fun _ => ?_)
      refine lv_aload_n hx hb dX1_init_24 rfl (lv_at hl 1 rfl) ?_
      refine va_get (D := D) (ci := 1) (C := RX1) (T := TX1) (N := 3) hx hb hts (by decide +kernel) hown hK hP 0 rfl rfl 0 (by decide) (hts (.fieldLink RX1 11 "BarkNames$Past" "woods" "[LBarkNames$Wood;") (by decide +kernel)) (fun _ h9 => h9) rfl dX1_init_25 ?_
      refine lv_iload_n hx hb dX1_init_28 rfl (lv_at hl 0 rfl) ?_
      have hR1 : 1 + 8 * i + 8 ≤ 193 := by omega
      have hR2 : 24 + 56 * i + 56 ≤ 1368 := by omega
      have hA : ∀ q : Nat, s.heap.size ≤ q → va_A [(h0, .inr (1, [.null, .int 0, .int 0]))] s.heap.size q := fun q h => Or.inr h
      have h_1 : 1 + 8 * i + 1 ≤ 193 := by omega
      have h_2 : 24 + 56 * i + 12 ≤ 1368 := by omega
      refine va_new (ci := 5) (fs := [.null, .null, .null, .null, .null, .null, .null, .int 0, .int 0, .int 0, .int 0, .int 0]) (C := RX5) (T := TX5) (N := 12) hx hb hts (by decide +kernel) tyX5 tyX5_ok hown (hts (.classLink RX1 9 RX5) (by decide +kernel)) (hts (.instantiable RX5 12) (by decide +kernel)) (hts (.initialized RX5) (by decide +kernel)) hK hP hD hS hA rfl (fun j hj => by rcases (show j = 0 ∨ j = 1 ∨ j = 2 ∨ j = 3 ∨ j = 4 ∨ j = 5 ∨ j = 6 ∨ j = 7 ∨ j = 8 ∨ j = 9 ∨ j = 10 ∨ j = 11 by omega) with rfl | rfl | rfl | rfl | rfl | rfl | rfl | rfl | rfl | rfl | rfl | rfl <;> rfl) h_1 h_2 dX1_init_29 (fun qn H hP hD hS => ?_)
      refine W.widen (k := 1 + 8 * i + 1) (n := 24 + 56 * i + 12) (by omega) (by omega) ?_
      have hP : va_P D vwCl (PWr cI cW h0 ar (refsF i q) i q a ++ [(qn, .inr (5, [.null, .null, .null, .null, .null, .null, .null, .int 0, .int 0, .int 0, .int 0, .int 0]))]) H := hP
      have hD : va_D (va_A [(h0, .inr (1, [.null, .int 0, .int 0]))] s.heap.size) (PWr cI cW h0 ar (refsF i q) i q a ++ [(qn, .inr (5, [.null, .null, .null, .null, .null, .null, .null, .int 0, .int 0, .int 0, .int 0, .int 0]))]) := hD
      refine lv_dup hx hb dX1_init_32 rfl ?_
      have hkc : 1 + 8 * i + 1 + 7 ≤ 193 := by omega
      have hks : 24 + 56 * i + 12 + 44 ≤ 1368 := by omega
      have hFc := va_free1 hD hS hA
      refine va_callv (va_runIN (As := []) (rest := [.ref qn, .int (nI i), .ref ar]) ⟨hx, hb, hml, hown, hts⟩ (ctX5_init l D cI cZ qn H.size) ⟨va_cnB 0 hts gX1_init_X5_init_n17 rfl rfl rfl (hGN.2.1 _ (List.mem_of_getElem? (i := 2) rfl)) (hts (.initialized RX5) (by decide +kernel)) (by decide +kernel) ⟨Nat.le_of_ble_eq_true rfl, Nat.le_of_ble_eq_true rfl⟩, rfl, hts (.instanceMethod yX5_init) (by decide +kernel)⟩ ⟨PcN.blind, fun U hU hW => ⟨rfl, by rw [hU], by rw [hU]; exact va_P1 hP, hGN.moved hW⟩⟩ rfl rfl hl.1 rfl (lv_room (Nat.le_of_ble_eq_true rfl)) dX1_init_33 ⟨hkc, hks⟩) hS (fun q _ h => hFc q h) hFc (fun u t H1 locs ht hvm hw hB hz1 hk1 hS => ?_)
      obtain ⟨hP1, hD1⟩ := hB
      rw [ht] at hP1
      obtain ⟨hP, hD⟩ := va_join1 hP hD hk1 hFc hP1 hD1
      generalize H1 = H at hP hS ⊢
      refine va_astq hx hb hK hP hD hS 1 2 (PWr cI cW h0 ar (refsF i q) i q a).length 5 rfl rfl (head_at _ _ _) rfl (vp_in_nI (by omega) (by decide)) dX1_init_36 (fun H locs hP hD hS => ?_)
      rw [nI_clamp (by omega), PWr_set, refsF_step] at hP hD
      refine lv_iinc (v := nI (i + 1)) (lv' := [(1, .int (nI (i + 1))), (0, .ref h0)]) hx hb dX1_init_37 hl (k := 0) rfl (nI_1 i) (by decide) rfl (fun ls hl => ?_)
      refine lv_goto (tgt := 15) hx hb dX1_init_40 (by decide) ?_
      refine W.widen (k := 1 + 8 * (i + 1)) (n := 24 + 56 * (i + 1)) (by omega) (by omega) ?_
      exact ih (i + 1) (by omega) _ _ H locs ls hP hD hS hl
  subst hAe
  exact key 24 0 rfl _ _ H locs ls hP hD hS hl
abbrev wd6 (cI cR cW : ClassId) (h : Nat) (g1 : Nat → Nat) (g2 : Nat → Nat → Nat) (g3 : Nat → Nat → Nat → Nat) : va_W := [(h, .inr (6, [.ref (g1 0), .ref (g1 1), .ref (g1 2), .ref (g1 3), .ref (g1 4), .ref (g1 5), .ref (g1 6), .ref (g1 7), .int 0, .int 0])), (g1 0, .inl (cR, 8, .inr (.inr (.inr (.inr (refsF 8 (g2 6)))))))] ++ wd4 cI (g1 1) (g2 0) ++ wd5 cI (g1 2) (g2 1) ++ wd5 cI (g1 3) (g2 2) ++ [(g1 4, .inl (cW, 2, .inr (.inr (.inr (.inr (refsF 2 (g2 7)))))))] ++ wd1 cI cW (g1 5) (g1 8) (g2 3) (g3 0) ++ wd2 cI (g1 6) (g2 4) ++ wd0 cI (g1 7) (g2 5) ++ (List.range 8).flatMap (fun j => wd3 cI (g2 6 j) (g3 1 j)) ++ (List.range 2).flatMap (fun j => wd5 cI (g2 7 j) (g3 2 j))
theorem LW_set {X X' F Y : va_W} {k : Nat} {y : Nat × va_E} (h : X.set k y = X') (hl : k < X.length) : ((X ++ F) ++ Y).set k y = X' ++ (F ++ Y) := by
  rw [List.append_assoc, List.set_append_left _ _ hl, h]
theorem flat_fnx {β : Type} {i : Nat} {f : Nat → (Nat → Nat) → List β} {q : Nat → Nat} {a : Nat → Nat → Nat} {qn : Nat} {an : Nat → Nat} : (List.range i).flatMap (fun j => f (q j) (a j)) ++ f qn an = (List.range (i + 1)).flatMap (fun j => f (fnx q i qn j) (fnx a i an j)) := by
  rw [flat_s, fnx_at, fnx_at, flat_cg (f := fun j => f (fnx q i qn j) (fnx a i an j)) (g := fun j => f (q j) (a j)) (fun k hk => by rw [fnx_ne (by omega), fnx_ne (by omega)])]
abbrev rmX6_init : Room := { frames := 3, cells := 250, slots := 2129, locals := 53 }
set_option maxHeartbeats 4000000 in
set_option maxRecDepth 100000 in
/-- BarkNames(): all its objects -/
theorem ctX6_init (l : Launch) (D : va_G) (cI cZ : ClassId) (h0 sz : Nat) : Met l yX6_init wsX6_init rmX6_init (PcN D cI cZ h0 sz (.inr (6, [.null, .null, .null, .null, .null, .null, .null, .null, .int 0, .int 0]))) (va_Qv (fun (_ : ClassId × ClassId × (Nat → Nat) × (Nat → Nat → Nat) × (Nat → Nat → Nat → Nat)) => True) (fun u t => va_P D vwCl (wd6 cI u.1 u.2.1 h0 u.2.2.1 u.2.2.2.1 u.2.2.2.2) t.heap ∧ va_D (va_A [(h0, .inr (6, [.null, .null, .null, .null, .null, .null, .null, .null, .int 0, .int 0]))] sz) (wd6 cI u.1 u.2.1 h0 u.2.2.1 u.2.2.2.1 u.2.2.2.2) ∧ va_K D vwCl [(u.1, .object "BarkNames$Row"), (u.2.1, .object "BarkNames$Wood")] t) (va_A [(h0, .inr (6, [.null, .null, .null, .null, .null, .null, .null, .null, .int 0, .int 0]))] sz)) 250 2129 (va_A [(h0, .inr (6, [.null, .null, .null, .null, .null, .null, .null, .null, .int 0, .int 0]))] sz) := by
  refine Met.ofW (cc := cX6_init) (maxL := 2) (ret := none) (by decide +kernel) rfl ?_
  intro p e s m args below meth c s₁ B hml hv
  obtain ⟨rfl, hsz, hP, hGN⟩ := hv
  have hx := B.exec
  have hb := B.bytes
  have hr := B.returns
  have hts := atoms_spec (ws := wsX6_init) B.pre
  have hown : s.vm.findClass RX6 = some m.cls := findClass_of_methodNamed B.named
  have hlocks := B.notSynchronized
  have hin : meth.name = "<init>" := (name_of_methodNamed B.named B.method).1
  subst hsz
  have hD : va_D (va_A [(h0, .inr (6, [.null, .null, .null, .null, .null, .null, .null, .null, .int 0, .int 0]))] s.heap.size) [(h0, .inr (6, [.null, .null, .null, .null, .null, .null, .null, .null, .int 0, .int 0]))] := va_D1 _ _ (va_A.in (k := 0) rfl)
  generalize hAe : va_A [(h0, .inr (6, [.null, .null, .null, .null, .null, .null, .null, .null, .int 0, .int 0]))] s.heap.size = A at hD ⊢
  have hA : ∀ q : Nat, s.heap.size ≤ q → A q := fun q h => by rw [← hAe]; exact Or.inr h
  have hS : va_S A s.heap s.heap [] := va_S.rf
  have hK := hGN.1
  have hl := lv_entry ([.ref h0]) (n := 2) (Nat.le_of_ble_eq_true rfl)
  rw [lg_entry_eq]
  generalize (lg_sl ([.ref h0]) ++ List.replicate (2 - (lg_sl ([.ref h0])).length) Slot.unset).toArray = ls at hl ⊢
  have hl : lv_has ls 2 [(0, .ref h0)] := hl
  refine lv_aload_n hx hb dX6_init_0 rfl (lv_at hl 0 rfl) ?_
  refine W.objInit hx hb hown (hts (.methodLink RX6 1 objectInit) (by decide +kernel)) (hts (.instanceMethod objectInit) (by decide +kernel)) (hts (.code objectInit ⟨#[0xb1]⟩ 1 none) (by decide +kernel)) rfl (by rw [hml]; exact hl.1) rfl dX6_init_1 (Nat.le_of_ble_eq_true rfl) (Nat.le_of_ble_eq_true rfl) ?_
  refine W.eq (g2 := F0 m 4 ls []) rfl ?_
  refine lv_aload_n hx hb dX6_init_4 rfl (lv_at hl 0 rfl) ?_
  refine lv_bipush (v := 8) hx hb dX6_init_5 (by decide) ?_
  have h_1 : 0 + 1 ≤ 250 := by decide
  have h_2 : 0 + 8 ≤ 2129 := by decide
  refine va_newq (N' := 8) hx hb hown (hts (.classLink RX6 9 RX3) (by decide +kernel)) hGN.2.2.1 hK hP hD hS hA (by decide) rfl (Nat.le_of_ble_eq_true rfl) h_1 h_2 dX6_init_7 (fun ra cR H hK hP hD hS => ?_)
  refine W.widen (k := 1) (n := 8) (by decide) (by decide) ?_
  have hP : va_P D vwCl ([(h0, .inr (6, [.null, .null, .null, .null, .null, .null, .null, .null, .int 0, .int 0])), (ra, .inl (cR, 8, .inr (.inr (.inr (.inr (fun _ => none))))))]) H := hP
  have hD : va_D A ([(h0, .inr (6, [.null, .null, .null, .null, .null, .null, .null, .null, .int 0, .int 0])), (ra, .inl (cR, 8, .inr (.inr (.inr (.inr (fun _ => none))))))]) := hD
  refine va_putF (v := .ref ra) (ty := .array (.object "BarkNames$Row")) (D := D) (ci := 6) (C := RX6) (T := TX6) (N := 10) hx hb hts (by decide +kernel) tyX6 tyX6_ok nmX6 hown hK hP hD hS 0 rfl rfl 0 (by decide) (hts (.fieldLink RX6 11 "BarkNames" "rows" "[LBarkNames$Row;") (by decide +kernel)) (fun _ h9 => h9) rfl hin rfl (by decide +kernel) rfl rfl (Nat.le_of_ble_eq_true rfl) dX6_init_10 (fun H locs hP hD hS => ?_)
  have hP : va_P D vwCl ([(h0, .inr (6, [.ref ra, .null, .null, .null, .null, .null, .null, .null, .int 0, .int 0])), (ra, .inl (cR, 8, .inr (.inr (.inr (.inr (fun _ => none))))))]) H := hP
  have hD : va_D A ([(h0, .inr (6, [.ref ra, .null, .null, .null, .null, .null, .null, .null, .int 0, .int 0])), (ra, .inl (cR, 8, .inr (.inr (.inr (.inr (fun _ => none))))))]) := hD
  refine lv_aload_n hx hb dX6_init_13 rfl (lv_at hl 0 rfl) ?_
  have h_1 : 1 + 1 ≤ 250 := by decide
  have h_2 : 8 + 5 ≤ 2129 := by decide
  refine va_new (ci := 4) (fs := [.null, .int 0, .int 0, .int 0, .int 0]) (C := RX4) (T := TX4) (N := 5) hx hb hts (by decide +kernel) tyX4 tyX4_ok hown (hts (.classLink RX6 15 RX4) (by decide +kernel)) (hts (.instantiable RX4 5) (by decide +kernel)) (hts (.initialized RX4) (by decide +kernel)) hK hP hD hS hA rfl (fun j hj => by rcases (show j = 0 ∨ j = 1 ∨ j = 2 ∨ j = 3 ∨ j = 4 by omega) with rfl | rfl | rfl | rfl | rfl <;> rfl) h_1 h_2 dX6_init_14 (fun tq H hP hD hS => ?_)
  refine W.widen (k := 2) (n := 13) (by decide) (by decide) ?_
  have hP : va_P D vwCl ([(h0, .inr (6, [.ref ra, .null, .null, .null, .null, .null, .null, .null, .int 0, .int 0])), (ra, .inl (cR, 8, .inr (.inr (.inr (.inr (fun _ => none))))))] ++ [(tq, .inr (4, [.null, .int 0, .int 0, .int 0, .int 0]))]) H := hP
  have hD : va_D A ([(h0, .inr (6, [.ref ra, .null, .null, .null, .null, .null, .null, .null, .int 0, .int 0])), (ra, .inl (cR, 8, .inr (.inr (.inr (.inr (fun _ => none))))))] ++ [(tq, .inr (4, [.null, .int 0, .int 0, .int 0, .int 0]))]) := hD
  refine lv_dup hx hb dX6_init_17 rfl ?_
  have hkc : 2 + 1 ≤ 250 := by decide
  have hks : 13 + 140 ≤ 2129 := by decide
  have hFc := va_free1 hD hS hA
  refine va_callv (va_runIN (As := []) (rest := [.ref tq, .ref h0]) ⟨hx, hb, hml, hown, hts⟩ (ctX4_init l D cI cZ tq H.size) ⟨va_cnB 0 hts gX6_init_X4_init_n17 rfl rfl rfl (hGN.2.1 _ (List.mem_of_getElem? (i := 0) rfl)) (hts (.initialized RX4) (by decide +kernel)) (by decide +kernel) ⟨Nat.le_of_ble_eq_true rfl, Nat.le_of_ble_eq_true rfl⟩, rfl, hts (.instanceMethod yX4_init) (by decide +kernel)⟩ ⟨PcN.blind, fun U hU hW => ⟨rfl, by rw [hU], by rw [hU]; exact va_P1 hP, hGN.moved hW⟩⟩ rfl rfl hl.1 rfl (lv_room (Nat.le_of_ble_eq_true rfl)) dX6_init_18 ⟨hkc, hks⟩) hS (fun q _ h => hFc q h) hFc (fun ta t H1 locs ht hvm hw hB hz1 hk1 hS => ?_)
  obtain ⟨hP1, hD1⟩ := hB
  rw [ht] at hP1
  obtain ⟨hP, hD⟩ := va_join1 hP hD hk1 hFc hP1 hD1
  generalize H1 = H at hP hS ⊢
  refine W.widen (k := 3) (n := 153) (by decide) (by decide) ?_
  refine va_putF (v := .ref tq) (ty := .object "BarkNames$Tape") (D := D) (ci := 6) (C := RX6) (T := TX6) (N := 10) hx hb hts (by decide +kernel) tyX6 tyX6_ok nmX6 hown hK hP hD hS 0 rfl rfl 1 (by decide) (hts (.fieldLink RX6 18 "BarkNames" "tape" "LBarkNames$Tape;") (by decide +kernel)) (fun _ h9 => h9) rfl hin rfl (by decide +kernel) rfl rfl (Nat.le_of_ble_eq_true rfl) dX6_init_21 (fun H locs hP hD hS => ?_)
  have hP : va_P D vwCl ([(h0, .inr (6, [.ref ra, .ref tq, .null, .null, .null, .null, .null, .null, .int 0, .int 0])), (ra, .inl (cR, 8, .inr (.inr (.inr (.inr (fun _ => none))))))] ++ wd4 cI tq ta) H := hP
  have hD : va_D A ([(h0, .inr (6, [.ref ra, .ref tq, .null, .null, .null, .null, .null, .null, .int 0, .int 0])), (ra, .inl (cR, 8, .inr (.inr (.inr (.inr (fun _ => none))))))] ++ wd4 cI tq ta) := hD
  refine lv_aload_n hx hb dX6_init_24 rfl (lv_at hl 0 rfl) ?_
  have h_1 : 3 + 1 ≤ 250 := by decide
  have h_2 : 153 + 12 ≤ 2129 := by decide
  refine va_new (ci := 5) (fs := [.null, .null, .null, .null, .null, .null, .null, .int 0, .int 0, .int 0, .int 0, .int 0]) (C := RX5) (T := TX5) (N := 12) hx hb hts (by decide +kernel) tyX5 tyX5_ok hown (hts (.classLink RX6 22 RX5) (by decide +kernel)) (hts (.instantiable RX5 12) (by decide +kernel)) (hts (.initialized RX5) (by decide +kernel)) hK hP hD hS hA rfl (fun j hj => by rcases (show j = 0 ∨ j = 1 ∨ j = 2 ∨ j = 3 ∨ j = 4 ∨ j = 5 ∨ j = 6 ∨ j = 7 ∨ j = 8 ∨ j = 9 ∨ j = 10 ∨ j = 11 by omega) with rfl | rfl | rfl | rfl | rfl | rfl | rfl | rfl | rfl | rfl | rfl | rfl <;> rfl) h_1 h_2 dX6_init_25 (fun nq H hP hD hS => ?_)
  refine W.widen (k := 4) (n := 165) (by decide) (by decide) ?_
  have hP : va_P D vwCl ([(h0, .inr (6, [.ref ra, .ref tq, .null, .null, .null, .null, .null, .null, .int 0, .int 0])), (ra, .inl (cR, 8, .inr (.inr (.inr (.inr (fun _ => none))))))] ++ wd4 cI tq ta ++ [(nq, .inr (5, [.null, .null, .null, .null, .null, .null, .null, .int 0, .int 0, .int 0, .int 0, .int 0]))]) H := hP
  have hD : va_D A ([(h0, .inr (6, [.ref ra, .ref tq, .null, .null, .null, .null, .null, .null, .int 0, .int 0])), (ra, .inl (cR, 8, .inr (.inr (.inr (.inr (fun _ => none))))))] ++ wd4 cI tq ta ++ [(nq, .inr (5, [.null, .null, .null, .null, .null, .null, .null, .int 0, .int 0, .int 0, .int 0, .int 0]))]) := hD
  refine lv_dup hx hb dX6_init_28 rfl ?_
  have hkc : 4 + 7 ≤ 250 := by decide
  have hks : 165 + 44 ≤ 2129 := by decide
  have hFc := va_free1 hD hS hA
  refine va_callv (va_runIN (As := []) (rest := [.ref nq, .ref h0]) ⟨hx, hb, hml, hown, hts⟩ (ctX5_init l D cI cZ nq H.size) ⟨va_cnB 0 hts gX6_init_X5_init_n24 rfl rfl rfl (hGN.2.1 _ (List.mem_of_getElem? (i := 1) rfl)) (hts (.initialized RX5) (by decide +kernel)) (by decide +kernel) ⟨Nat.le_of_ble_eq_true rfl, Nat.le_of_ble_eq_true rfl⟩, rfl, hts (.instanceMethod yX5_init) (by decide +kernel)⟩ ⟨PcN.blind, fun U hU hW => ⟨rfl, by rw [hU], by rw [hU]; exact va_P1 hP, hGN.moved hW⟩⟩ rfl rfl hl.1 rfl (lv_room (Nat.le_of_ble_eq_true rfl)) dX6_init_29 ⟨hkc, hks⟩) hS (fun q _ h => hFc q h) hFc (fun na t H1 locs ht hvm hw hB hz1 hk1 hS => ?_)
  obtain ⟨hP1, hD1⟩ := hB
  rw [ht] at hP1
  obtain ⟨hP, hD⟩ := va_join1 hP hD hk1 hFc hP1 hD1
  generalize H1 = H at hP hS ⊢
  refine W.widen (k := 11) (n := 209) (by decide) (by decide) ?_
  refine va_putF (v := .ref nq) (ty := .object "BarkNames$Wood") (D := D) (ci := 6) (C := RX6) (T := TX6) (N := 10) hx hb hts (by decide +kernel) tyX6 tyX6_ok nmX6 hown hK hP hD hS 0 rfl rfl 2 (by decide) (hts (.fieldLink RX6 25 "BarkNames" "now" "LBarkNames$Wood;") (by decide +kernel)) (fun _ h9 => h9) rfl hin rfl (by decide +kernel) rfl rfl (Nat.le_of_ble_eq_true rfl) dX6_init_32 (fun H locs hP hD hS => ?_)
  have hP : va_P D vwCl ([(h0, .inr (6, [.ref ra, .ref tq, .ref nq, .null, .null, .null, .null, .null, .int 0, .int 0])), (ra, .inl (cR, 8, .inr (.inr (.inr (.inr (fun _ => none))))))] ++ wd4 cI tq ta ++ wd5 cI nq na) H := hP
  have hD : va_D A ([(h0, .inr (6, [.ref ra, .ref tq, .ref nq, .null, .null, .null, .null, .null, .int 0, .int 0])), (ra, .inl (cR, 8, .inr (.inr (.inr (.inr (fun _ => none))))))] ++ wd4 cI tq ta ++ wd5 cI nq na) := hD
  refine lv_aload_n hx hb dX6_init_35 rfl (lv_at hl 0 rfl) ?_
  have h_1 : 11 + 1 ≤ 250 := by decide
  have h_2 : 209 + 12 ≤ 2129 := by decide
  refine va_new (ci := 5) (fs := [.null, .null, .null, .null, .null, .null, .null, .int 0, .int 0, .int 0, .int 0, .int 0]) (C := RX5) (T := TX5) (N := 12) hx hb hts (by decide +kernel) tyX5 tyX5_ok hown (hts (.classLink RX6 22 RX5) (by decide +kernel)) (hts (.instantiable RX5 12) (by decide +kernel)) (hts (.initialized RX5) (by decide +kernel)) hK hP hD hS hA rfl (fun j hj => by rcases (show j = 0 ∨ j = 1 ∨ j = 2 ∨ j = 3 ∨ j = 4 ∨ j = 5 ∨ j = 6 ∨ j = 7 ∨ j = 8 ∨ j = 9 ∨ j = 10 ∨ j = 11 by omega) with rfl | rfl | rfl | rfl | rfl | rfl | rfl | rfl | rfl | rfl | rfl | rfl <;> rfl) h_1 h_2 dX6_init_36 (fun dq H hP hD hS => ?_)
  refine W.widen (k := 12) (n := 221) (by decide) (by decide) ?_
  have hP : va_P D vwCl ([(h0, .inr (6, [.ref ra, .ref tq, .ref nq, .null, .null, .null, .null, .null, .int 0, .int 0])), (ra, .inl (cR, 8, .inr (.inr (.inr (.inr (fun _ => none))))))] ++ wd4 cI tq ta ++ wd5 cI nq na ++ [(dq, .inr (5, [.null, .null, .null, .null, .null, .null, .null, .int 0, .int 0, .int 0, .int 0, .int 0]))]) H := hP
  have hD : va_D A ([(h0, .inr (6, [.ref ra, .ref tq, .ref nq, .null, .null, .null, .null, .null, .int 0, .int 0])), (ra, .inl (cR, 8, .inr (.inr (.inr (.inr (fun _ => none))))))] ++ wd4 cI tq ta ++ wd5 cI nq na ++ [(dq, .inr (5, [.null, .null, .null, .null, .null, .null, .null, .int 0, .int 0, .int 0, .int 0, .int 0]))]) := hD
  refine lv_dup hx hb dX6_init_39 rfl ?_
  have hkc : 12 + 7 ≤ 250 := by decide
  have hks : 221 + 44 ≤ 2129 := by decide
  have hFc := va_free1 hD hS hA
  refine va_callv (va_runIN (As := []) (rest := [.ref dq, .ref h0]) ⟨hx, hb, hml, hown, hts⟩ (ctX5_init l D cI cZ dq H.size) ⟨va_cnB 0 hts gX6_init_X5_init_n24 rfl rfl rfl (hGN.2.1 _ (List.mem_of_getElem? (i := 1) rfl)) (hts (.initialized RX5) (by decide +kernel)) (by decide +kernel) ⟨Nat.le_of_ble_eq_true rfl, Nat.le_of_ble_eq_true rfl⟩, rfl, hts (.instanceMethod yX5_init) (by decide +kernel)⟩ ⟨PcN.blind, fun U hU hW => ⟨rfl, by rw [hU], by rw [hU]; exact va_P1 hP, hGN.moved hW⟩⟩ rfl rfl hl.1 rfl (lv_room (Nat.le_of_ble_eq_true rfl)) dX6_init_40 ⟨hkc, hks⟩) hS (fun q _ h => hFc q h) hFc (fun da t H1 locs ht hvm hw hB hz1 hk1 hS => ?_)
  obtain ⟨hP1, hD1⟩ := hB
  rw [ht] at hP1
  obtain ⟨hP, hD⟩ := va_join1 hP hD hk1 hFc hP1 hD1
  generalize H1 = H at hP hS ⊢
  refine W.widen (k := 19) (n := 265) (by decide) (by decide) ?_
  refine va_putF (v := .ref dq) (ty := .object "BarkNames$Wood") (D := D) (ci := 6) (C := RX6) (T := TX6) (N := 10) hx hb hts (by decide +kernel) tyX6 tyX6_ok nmX6 hown hK hP hD hS 0 rfl rfl 3 (by decide) (hts (.fieldLink RX6 29 "BarkNames" "tried" "LBarkNames$Wood;") (by decide +kernel)) (fun _ h9 => h9) rfl hin rfl (by decide +kernel) rfl rfl (Nat.le_of_ble_eq_true rfl) dX6_init_43 (fun H locs hP hD hS => ?_)
  have hP : va_P D vwCl ([(h0, .inr (6, [.ref ra, .ref tq, .ref nq, .ref dq, .null, .null, .null, .null, .int 0, .int 0])), (ra, .inl (cR, 8, .inr (.inr (.inr (.inr (fun _ => none))))))] ++ wd4 cI tq ta ++ wd5 cI nq na ++ wd5 cI dq da) H := hP
  have hD : va_D A ([(h0, .inr (6, [.ref ra, .ref tq, .ref nq, .ref dq, .null, .null, .null, .null, .int 0, .int 0])), (ra, .inl (cR, 8, .inr (.inr (.inr (.inr (fun _ => none))))))] ++ wd4 cI tq ta ++ wd5 cI nq na ++ wd5 cI dq da) := hD
  refine lv_aload_n hx hb dX6_init_46 rfl (lv_at hl 0 rfl) ?_
  refine lv_iconst (v := 2) hx hb dX6_init_47 (by decide) ?_
  have h_1 : 19 + 1 ≤ 250 := by decide
  have h_2 : 265 + 2 ≤ 2129 := by decide
  refine va_newq (N' := 2) hx hb hown (hts (.classLink RX6 22 RX5) (by decide +kernel)) hGN.2.2.2 hK hP hD hS hA (by decide) rfl (Nat.le_of_ble_eq_true rfl) h_1 h_2 dX6_init_48 (fun ia cW H hK hP hD hS => ?_)
  refine W.widen (k := 20) (n := 267) (by decide) (by decide) ?_
  have hP : va_P D vwCl ([(h0, .inr (6, [.ref ra, .ref tq, .ref nq, .ref dq, .null, .null, .null, .null, .int 0, .int 0])), (ra, .inl (cR, 8, .inr (.inr (.inr (.inr (fun _ => none))))))] ++ wd4 cI tq ta ++ wd5 cI nq na ++ wd5 cI dq da ++ [(ia, .inl (cW, 2, .inr (.inr (.inr (.inr (fun _ => none))))))]) H := hP
  have hD : va_D A ([(h0, .inr (6, [.ref ra, .ref tq, .ref nq, .ref dq, .null, .null, .null, .null, .int 0, .int 0])), (ra, .inl (cR, 8, .inr (.inr (.inr (.inr (fun _ => none))))))] ++ wd4 cI tq ta ++ wd5 cI nq na ++ wd5 cI dq da ++ [(ia, .inl (cW, 2, .inr (.inr (.inr (.inr (fun _ => none))))))]) := hD
  refine va_putF (v := .ref ia) (ty := .array (.object "BarkNames$Wood")) (D := D) (ci := 6) (C := RX6) (T := TX6) (N := 10) hx hb hts (by decide +kernel) tyX6 tyX6_ok nmX6 hown hK hP hD hS 0 rfl rfl 4 (by decide) (hts (.fieldLink RX6 32 "BarkNames" "images" "[LBarkNames$Wood;") (by decide +kernel)) (fun _ h9 => h9) rfl hin rfl (by decide +kernel) rfl rfl (Nat.le_of_ble_eq_true rfl) dX6_init_51 (fun H locs hP hD hS => ?_)
  have hP : va_P D vwCl ([(h0, .inr (6, [.ref ra, .ref tq, .ref nq, .ref dq, .ref ia, .null, .null, .null, .int 0, .int 0])), (ra, .inl (cR, 8, .inr (.inr (.inr (.inr (fun _ => none))))))] ++ wd4 cI tq ta ++ wd5 cI nq na ++ wd5 cI dq da ++ [(ia, .inl (cW, 2, .inr (.inr (.inr (.inr (fun _ => none))))))]) H := hP
  have hD : va_D A ([(h0, .inr (6, [.ref ra, .ref tq, .ref nq, .ref dq, .ref ia, .null, .null, .null, .int 0, .int 0])), (ra, .inl (cR, 8, .inr (.inr (.inr (.inr (fun _ => none))))))] ++ wd4 cI tq ta ++ wd5 cI nq na ++ wd5 cI dq da ++ [(ia, .inl (cW, 2, .inr (.inr (.inr (.inr (fun _ => none))))))]) := hD
  refine lv_aload_n hx hb dX6_init_54 rfl (lv_at hl 0 rfl) ?_
  have h_1 : 20 + 1 ≤ 250 := by decide
  have h_2 : 267 + 3 ≤ 2129 := by decide
  refine va_new (ci := 1) (fs := [.null, .int 0, .int 0]) (C := RX1) (T := TX1) (N := 3) hx hb hts (by decide +kernel) tyX1 tyX1_ok hown (hts (.classLink RX6 36 RX1) (by decide +kernel)) (hts (.instantiable RX1 3) (by decide +kernel)) (hts (.initialized RX1) (by decide +kernel)) hK hP hD hS hA rfl (fun j hj => by rcases (show j = 0 ∨ j = 1 ∨ j = 2 by omega) with rfl | rfl | rfl <;> rfl) h_1 h_2 dX6_init_55 (fun pq H hP hD hS => ?_)
  refine W.widen (k := 21) (n := 270) (by decide) (by decide) ?_
  have hP : va_P D vwCl ([(h0, .inr (6, [.ref ra, .ref tq, .ref nq, .ref dq, .ref ia, .null, .null, .null, .int 0, .int 0])), (ra, .inl (cR, 8, .inr (.inr (.inr (.inr (fun _ => none))))))] ++ wd4 cI tq ta ++ wd5 cI nq na ++ wd5 cI dq da ++ [(ia, .inl (cW, 2, .inr (.inr (.inr (.inr (fun _ => none))))))] ++ [(pq, .inr (1, [.null, .int 0, .int 0]))]) H := hP
  have hD : va_D A ([(h0, .inr (6, [.ref ra, .ref tq, .ref nq, .ref dq, .ref ia, .null, .null, .null, .int 0, .int 0])), (ra, .inl (cR, 8, .inr (.inr (.inr (.inr (fun _ => none))))))] ++ wd4 cI tq ta ++ wd5 cI nq na ++ wd5 cI dq da ++ [(ia, .inl (cW, 2, .inr (.inr (.inr (.inr (fun _ => none))))))] ++ [(pq, .inr (1, [.null, .int 0, .int 0]))]) := hD
  refine lv_dup hx hb dX6_init_58 rfl ?_
  have hkc : 21 + 193 ≤ 250 := by decide
  have hks : 270 + 1368 ≤ 2129 := by decide
  have hFc := va_free1 hD hS hA
  refine va_callv (va_runI (As := []) (rest := [.ref pq, .ref h0]) ⟨hx, hb, hml, hown, hts⟩ (ctX1_init l D cI cZ pq H.size) (cwI 0 hts gX6_init_X1_init rfl rfl rfl (hts (.initialized RX1) (by decide +kernel)) (hts (.methodLink RX6 38 yX1_init) (by decide +kernel)) (hts (.instanceMethod yX1_init) (by decide +kernel)) rfl (by decide +kernel) ⟨Nat.le_of_ble_eq_true rfl, Nat.le_of_ble_eq_true rfl⟩) ⟨PcN.blind, fun U hU hW => ⟨rfl, by rw [hU], by rw [hU]; exact va_P1 hP, hGN.moved hW⟩⟩ rfl rfl hl.1 rfl (lv_room (Nat.le_of_ble_eq_true rfl)) dX6_init_59 ⟨hkc, hks⟩) hS (fun q _ h => hFc q h) hFc (fun uu t H1 locs ht hvm hw hB hz1 hk1 hS => ?_)
  obtain ⟨par, cV, pqs, pas⟩ := uu
  obtain ⟨hP1, hD1, hK1⟩ := hB
  rw [ht] at hP1
  have hK1 := va_K.moved hvm.symm hK1
  obtain ⟨hP, hD⟩ := va_join1 hP hD hk1 hFc hP1 hD1
  generalize H1 = H at hP hS ⊢
  refine W.widen (k := 214) (n := 1638) (by decide) (by decide) ?_
  obtain rfl := (va_KO (i := 3) (j := 4) (hK.app hK1) rfl rfl).symm
  refine va_putF (v := .ref pq) (ty := .object "BarkNames$Past") (D := D) (ci := 6) (C := RX6) (T := TX6) (N := 10) hx hb hts (by decide +kernel) tyX6 tyX6_ok nmX6 hown hK hP hD hS 0 rfl rfl 5 (by decide) (hts (.fieldLink RX6 39 "BarkNames" "past" "LBarkNames$Past;") (by decide +kernel)) (fun _ h9 => h9) rfl hin rfl (by decide +kernel) rfl rfl (Nat.le_of_ble_eq_true rfl) dX6_init_62 (fun H locs hP hD hS => ?_)
  have hP : va_P D vwCl ([(h0, .inr (6, [.ref ra, .ref tq, .ref nq, .ref dq, .ref ia, .ref pq, .null, .null, .int 0, .int 0])), (ra, .inl (cR, 8, .inr (.inr (.inr (.inr (fun _ => none))))))] ++ wd4 cI tq ta ++ wd5 cI nq na ++ wd5 cI dq da ++ [(ia, .inl (cW, 2, .inr (.inr (.inr (.inr (fun _ => none))))))] ++ wd1 cI cW pq par pqs pas) H := hP
  have hD : va_D A ([(h0, .inr (6, [.ref ra, .ref tq, .ref nq, .ref dq, .ref ia, .ref pq, .null, .null, .int 0, .int 0])), (ra, .inl (cR, 8, .inr (.inr (.inr (.inr (fun _ => none))))))] ++ wd4 cI tq ta ++ wd5 cI nq na ++ wd5 cI dq da ++ [(ia, .inl (cW, 2, .inr (.inr (.inr (.inr (fun _ => none))))))] ++ wd1 cI cW pq par pqs pas) := hD
  refine lv_aload_n hx hb dX6_init_65 rfl (lv_at hl 0 rfl) ?_
  have h_1 : 214 + 1 ≤ 250 := by decide
  have h_2 : 1638 + 1 ≤ 2129 := by decide
  refine va_new (ci := 2) (fs := [.null]) (C := RX2) (T := TX2) (N := 1) hx hb hts (by decide +kernel) tyX2 tyX2_ok hown (hts (.classLink RX6 43 RX2) (by decide +kernel)) (hts (.instantiable RX2 1) (by decide +kernel)) (hts (.initialized RX2) (by decide +kernel)) hK hP hD hS hA rfl (fun j hj => by rcases (show j = 0 by omega) with rfl <;> rfl) h_1 h_2 dX6_init_66 (fun rq H hP hD hS => ?_)
  refine W.widen (k := 215) (n := 1639) (by decide) (by decide) ?_
  have hP : va_P D vwCl ([(h0, .inr (6, [.ref ra, .ref tq, .ref nq, .ref dq, .ref ia, .ref pq, .null, .null, .int 0, .int 0])), (ra, .inl (cR, 8, .inr (.inr (.inr (.inr (fun _ => none))))))] ++ wd4 cI tq ta ++ wd5 cI nq na ++ wd5 cI dq da ++ [(ia, .inl (cW, 2, .inr (.inr (.inr (.inr (fun _ => none))))))] ++ wd1 cI cW pq par pqs pas ++ [(rq, .inr (2, [.null]))]) H := hP
  have hD : va_D A ([(h0, .inr (6, [.ref ra, .ref tq, .ref nq, .ref dq, .ref ia, .ref pq, .null, .null, .int 0, .int 0])), (ra, .inl (cR, 8, .inr (.inr (.inr (.inr (fun _ => none))))))] ++ wd4 cI tq ta ++ wd5 cI nq na ++ wd5 cI dq da ++ [(ia, .inl (cW, 2, .inr (.inr (.inr (.inr (fun _ => none))))))] ++ wd1 cI cW pq par pqs pas ++ [(rq, .inr (2, [.null]))]) := hD
  refine lv_dup hx hb dX6_init_69 rfl ?_
  have hkc : 215 + 1 ≤ 250 := by decide
  have hks : 1639 + 8 ≤ 2129 := by decide
  have hFc := va_free1 hD hS hA
  refine va_callv (va_runIN (As := []) (rest := [.ref rq, .ref h0]) ⟨hx, hb, hml, hown, hts⟩ (ctX2_init l D cI cZ rq H.size) ⟨va_cnB 0 hts gX6_init_X2_init_n45 rfl rfl rfl (hGN.2.1 _ (List.mem_of_getElem? (i := 3) rfl)) (hts (.initialized RX2) (by decide +kernel)) (by decide +kernel) ⟨Nat.le_of_ble_eq_true rfl, Nat.le_of_ble_eq_true rfl⟩, rfl, hts (.instanceMethod yX2_init) (by decide +kernel)⟩ ⟨PcN.blind, fun U hU hW => ⟨rfl, by rw [hU], by rw [hU]; exact va_P1 hP, hGN.moved hW⟩⟩ rfl rfl hl.1 rfl (lv_room (Nat.le_of_ble_eq_true rfl)) dX6_init_70 ⟨hkc, hks⟩) hS (fun q _ h => hFc q h) hFc (fun rra t H1 locs ht hvm hw hB hz1 hk1 hS => ?_)
  obtain ⟨hP1, hD1⟩ := hB
  rw [ht] at hP1
  obtain ⟨hP, hD⟩ := va_join1 hP hD hk1 hFc hP1 hD1
  generalize H1 = H at hP hS ⊢
  refine W.widen (k := 216) (n := 1647) (by decide) (by decide) ?_
  refine va_putF (v := .ref rq) (ty := .object "BarkNames$Reading") (D := D) (ci := 6) (C := RX6) (T := TX6) (N := 10) hx hb hts (by decide +kernel) tyX6 tyX6_ok nmX6 hown hK hP hD hS 0 rfl rfl 6 (by decide) (hts (.fieldLink RX6 46 "BarkNames" "reading" "LBarkNames$Reading;") (by decide +kernel)) (fun _ h9 => h9) rfl hin rfl (by decide +kernel) rfl rfl (Nat.le_of_ble_eq_true rfl) dX6_init_73 (fun H locs hP hD hS => ?_)
  have hP : va_P D vwCl ([(h0, .inr (6, [.ref ra, .ref tq, .ref nq, .ref dq, .ref ia, .ref pq, .ref rq, .null, .int 0, .int 0])), (ra, .inl (cR, 8, .inr (.inr (.inr (.inr (fun _ => none))))))] ++ wd4 cI tq ta ++ wd5 cI nq na ++ wd5 cI dq da ++ [(ia, .inl (cW, 2, .inr (.inr (.inr (.inr (fun _ => none))))))] ++ wd1 cI cW pq par pqs pas ++ wd2 cI rq rra) H := hP
  have hD : va_D A ([(h0, .inr (6, [.ref ra, .ref tq, .ref nq, .ref dq, .ref ia, .ref pq, .ref rq, .null, .int 0, .int 0])), (ra, .inl (cR, 8, .inr (.inr (.inr (.inr (fun _ => none))))))] ++ wd4 cI tq ta ++ wd5 cI nq na ++ wd5 cI dq da ++ [(ia, .inl (cW, 2, .inr (.inr (.inr (.inr (fun _ => none))))))] ++ wd1 cI cW pq par pqs pas ++ wd2 cI rq rra) := hD
  refine lv_aload_n hx hb dX6_init_76 rfl (lv_at hl 0 rfl) ?_
  have h_1 : 216 + 1 ≤ 250 := by decide
  have h_2 : 1647 + 2 ≤ 2129 := by decide
  refine va_new (ci := 0) (fs := [.null, .int 0]) (C := RX0) (T := TX0) (N := 2) hx hb hts (by decide +kernel) tyX0 tyX0_ok hown (hts (.classLink RX6 50 RX0) (by decide +kernel)) (hts (.instantiable RX0 2) (by decide +kernel)) (hts (.initialized RX0) (by decide +kernel)) hK hP hD hS hA rfl (fun j hj => by rcases (show j = 0 ∨ j = 1 by omega) with rfl | rfl <;> rfl) h_1 h_2 dX6_init_77 (fun aq H hP hD hS => ?_)
  refine W.widen (k := 217) (n := 1649) (by decide) (by decide) ?_
  have hP : va_P D vwCl ([(h0, .inr (6, [.ref ra, .ref tq, .ref nq, .ref dq, .ref ia, .ref pq, .ref rq, .null, .int 0, .int 0])), (ra, .inl (cR, 8, .inr (.inr (.inr (.inr (fun _ => none))))))] ++ wd4 cI tq ta ++ wd5 cI nq na ++ wd5 cI dq da ++ [(ia, .inl (cW, 2, .inr (.inr (.inr (.inr (fun _ => none))))))] ++ wd1 cI cW pq par pqs pas ++ wd2 cI rq rra ++ [(aq, .inr (0, [.null, .int 0]))]) H := hP
  have hD : va_D A ([(h0, .inr (6, [.ref ra, .ref tq, .ref nq, .ref dq, .ref ia, .ref pq, .ref rq, .null, .int 0, .int 0])), (ra, .inl (cR, 8, .inr (.inr (.inr (.inr (fun _ => none))))))] ++ wd4 cI tq ta ++ wd5 cI nq na ++ wd5 cI dq da ++ [(ia, .inl (cW, 2, .inr (.inr (.inr (.inr (fun _ => none))))))] ++ wd1 cI cW pq par pqs pas ++ wd2 cI rq rra ++ [(aq, .inr (0, [.null, .int 0]))]) := hD
  refine lv_dup hx hb dX6_init_80 rfl ?_
  have hkc : 217 + 1 ≤ 250 := by decide
  have hks : 1649 + 16 ≤ 2129 := by decide
  have hFc := va_free1 hD hS hA
  refine va_callv (va_runIN (As := []) (rest := [.ref aq, .ref h0]) ⟨hx, hb, hml, hown, hts⟩ (ctX0_init l D cI cZ aq H.size) ⟨va_cnB 0 hts gX6_init_X0_init_n52 rfl rfl rfl (hGN.2.1 _ (List.mem_of_getElem? (i := 4) rfl)) (hts (.initialized RX0) (by decide +kernel)) (by decide +kernel) ⟨Nat.le_of_ble_eq_true rfl, Nat.le_of_ble_eq_true rfl⟩, rfl, hts (.instanceMethod yX0_init) (by decide +kernel)⟩ ⟨PcN.blind, fun U hU hW => ⟨rfl, by rw [hU], by rw [hU]; exact va_P1 hP, hGN.moved hW⟩⟩ rfl rfl hl.1 rfl (lv_room (Nat.le_of_ble_eq_true rfl)) dX6_init_81 ⟨hkc, hks⟩) hS (fun q _ h => hFc q h) hFc (fun aa t H1 locs ht hvm hw hB hz1 hk1 hS => ?_)
  obtain ⟨hP1, hD1⟩ := hB
  rw [ht] at hP1
  obtain ⟨hP, hD⟩ := va_join1 hP hD hk1 hFc hP1 hD1
  generalize H1 = H at hP hS ⊢
  refine W.widen (k := 218) (n := 1665) (by decide) (by decide) ?_
  refine va_putF (v := .ref aq) (ty := .object "BarkNames$Asks") (D := D) (ci := 6) (C := RX6) (T := TX6) (N := 10) hx hb hts (by decide +kernel) tyX6 tyX6_ok nmX6 hown hK hP hD hS 0 rfl rfl 7 (by decide) (hts (.fieldLink RX6 53 "BarkNames" "asks" "LBarkNames$Asks;") (by decide +kernel)) (fun _ h9 => h9) rfl hin rfl (by decide +kernel) rfl rfl (Nat.le_of_ble_eq_true rfl) dX6_init_84 (fun H locs hP hD hS => ?_)
  have hP : va_P D vwCl ([(h0, .inr (6, [.ref ra, .ref tq, .ref nq, .ref dq, .ref ia, .ref pq, .ref rq, .ref aq, .int 0, .int 0])), (ra, .inl (cR, 8, .inr (.inr (.inr (.inr (fun _ => none))))))] ++ wd4 cI tq ta ++ wd5 cI nq na ++ wd5 cI dq da ++ [(ia, .inl (cW, 2, .inr (.inr (.inr (.inr (fun _ => none))))))] ++ wd1 cI cW pq par pqs pas ++ wd2 cI rq rra ++ wd0 cI aq aa) H := hP
  have hD : va_D A ([(h0, .inr (6, [.ref ra, .ref tq, .ref nq, .ref dq, .ref ia, .ref pq, .ref rq, .ref aq, .int 0, .int 0])), (ra, .inl (cR, 8, .inr (.inr (.inr (.inr (fun _ => none))))))] ++ wd4 cI tq ta ++ wd5 cI nq na ++ wd5 cI dq da ++ [(ia, .inl (cW, 2, .inr (.inr (.inr (.inr (fun _ => none))))))] ++ wd1 cI cW pq par pqs pas ++ wd2 cI rq rra ++ wd0 cI aq aa) := hD
  refine lv_iconst (v := 0) hx hb dX6_init_87 (by decide) ?_
  refine lv_istore_n (lv' := [(1, .int 0), (0, .ref h0)]) hx hb dX6_init_88 rfl hl (by decide) rfl (fun ls hl => ?_)
  subst hAe
  have keyI : ∀ (rqs : Nat → Nat) (ras : Nat → Nat → Nat) (n i : Nat), i + n = 2 → ∀ (q : Nat → Nat) (a : Nat → Nat → Nat) (H : Heap) (locs : List Loc) (ls : Array Slot), va_P D vwCl (([(h0, .inr (6, [.ref ra, .ref tq, .ref nq, .ref dq, .ref ia, .ref pq, .ref rq, .ref aq, .int 0, .int 0])), (ra, .inl (cR, 8, .inr (.inr (.inr (.inr (refsF 8 rqs))))))] ++ wd4 cI tq ta ++ wd5 cI nq na ++ wd5 cI dq da ++ [(ia, .inl (cW, 2, .inr (.inr (.inr (.inr (refsF i q))))))] ++ wd1 cI cW pq par pqs pas ++ wd2 cI rq rra ++ wd0 cI aq aa ++ (List.range 8).flatMap (fun j => wd3 cI (rqs j) (ras j))) ++ (List.range i).flatMap (fun j => wd5 cI (q j) (a j))) H → va_D (va_A [(h0, .inr (6, [.null, .null, .null, .null, .null, .null, .null, .null, .int 0, .int 0]))] s.heap.size) (([(h0, .inr (6, [.ref ra, .ref tq, .ref nq, .ref dq, .ref ia, .ref pq, .ref rq, .ref aq, .int 0, .int 0])), (ra, .inl (cR, 8, .inr (.inr (.inr (.inr (refsF 8 rqs))))))] ++ wd4 cI tq ta ++ wd5 cI nq na ++ wd5 cI dq da ++ [(ia, .inl (cW, 2, .inr (.inr (.inr (.inr (refsF i q))))))] ++ wd1 cI cW pq par pqs pas ++ wd2 cI rq rra ++ wd0 cI aq aa ++ (List.range 8).flatMap (fun j => wd3 cI (rqs j) (ras j))) ++ (List.range i).flatMap (fun j => wd5 cI (q j) (a j))) → va_S (va_A [(h0, .inr (6, [.null, .null, .null, .null, .null, .null, .null, .null, .int 0, .int 0]))] s.heap.size) s.heap H locs → lv_has ls 2 [(1, .int (nI i)), (0, .ref h0)] → W p l e (headSpec wsX6_init rmX6_init).room s m #[.ref h0] below meth c H locs (234 + 8 * i) (2017 + 56 * i) (MQ below (va_Qv (fun (_ : ClassId × ClassId × (Nat → Nat) × (Nat → Nat → Nat) × (Nat → Nat → Nat → Nat)) => True) (fun u t => va_P D vwCl (wd6 cI u.1 u.2.1 h0 u.2.2.1 u.2.2.2.1 u.2.2.2.2) t.heap ∧ va_D (va_A [(h0, .inr (6, [.null, .null, .null, .null, .null, .null, .null, .null, .int 0, .int 0]))] s.heap.size) (wd6 cI u.1 u.2.1 h0 u.2.2.1 u.2.2.2.1 u.2.2.2.2) ∧ va_K D vwCl [(u.1, .object "BarkNames$Row"), (u.2.1, .object "BarkNames$Wood")] t) (va_A [(h0, .inr (6, [.null, .null, .null, .null, .null, .null, .null, .null, .int 0, .int 0]))] s.heap.size)) #[.ref h0] s 250 2129 (va_A [(h0, .inr (6, [.null, .null, .null, .null, .null, .null, .null, .null, .int 0, .int 0]))] s.heap.size)) (F0 m 119 ls []) := by
    intro rqs ras n
    induction n with
    | zero =>
      intro i hi q a H locs ls hP hD hS hl
      obtain rfl : i = 2 := by omega
      refine lv_iload_n hx hb dX6_init_119 rfl (lv_at hl 0 rfl) ?_
      refine lv_aload_n hx hb dX6_init_120 rfl (lv_at hl 1 rfl) ?_
      refine va_get (D := D) (ci := 6) (C := RX6) (T := TX6) (N := 10) hx hb hts (by decide +kernel) hown hK hP 0 rfl rfl 4 (by decide) (hts (.fieldLink RX6 32 "BarkNames" "images" "[LBarkNames$Wood;") (by decide +kernel)) (fun _ h9 => h9) rfl dX6_init_121 ?_
      refine va_alen hx hb hK hP 20 3 rfl rfl (v := nI 2) rfl dX6_init_124 ?_
      refine lv_icmp_ge (tgt := 147) hx hb dX6_init_125 (by decide) (fun _ => ?_) (fun c9 => absurd (nI_le (Nat.le_refl 2) (by decide)) c9)
      refine W.widen (k := 250) (n := 2129) (by decide) (by decide) ?_
      exact W.vret hx hb hr (fun t ht hW => ⟨⟨(cR, cW, (fun k => ([ra, tq, nq, dq, ia, pq, rq, aq, par] : List Nat).getD k 0), (fun x => if x = 0 then ta else if x = 1 then na else if x = 2 then da else if x = 3 then pqs else if x = 4 then rra else if x = 5 then aa else if x = 6 then rqs else q), (fun x => if x = 0 then pas else if x = 1 then ras else a)), rfl, trivial, by show va_P D vwCl _ t.heap; rw [ht]; exact hP, hD, va_K.moved hW.alike (hK.sub [2, 3] rfl)⟩, hS.F ht⟩) hS.2.2 dX6_init_147
    | succ n ih =>
      intro i hi q a H locs ls hP hD hS hl
      refine lv_iload_n hx hb dX6_init_119 rfl (lv_at hl 0 rfl) ?_
      refine lv_aload_n hx hb dX6_init_120 rfl (lv_at hl 1 rfl) ?_
      refine va_get (D := D) (ci := 6) (C := RX6) (T := TX6) (N := 10) hx hb hts (by decide +kernel) hown hK hP 0 rfl rfl 4 (by decide) (hts (.fieldLink RX6 32 "BarkNames" "images" "[LBarkNames$Wood;") (by decide +kernel)) (fun _ h9 => h9) rfl dX6_init_121 ?_
      refine va_alen hx hb hK hP 20 3 rfl rfl (v := nI 2) rfl dX6_init_124 ?_
      refine lv_icmp_ge (tgt := 147) hx hb dX6_init_125 (by decide) (fun c9 => absurd c9 (nI_ge (by omega) (by decide))) (fun _ => ?_)
      refine lv_aload_n hx hb dX6_init_128 rfl (lv_at hl 1 rfl) ?_
      refine va_get (D := D) (ci := 6) (C := RX6) (T := TX6) (N := 10) hx hb hts (by decide +kernel) hown hK hP 0 rfl rfl 4 (by decide) (hts (.fieldLink RX6 32 "BarkNames" "images" "[LBarkNames$Wood;") (by decide +kernel)) (fun _ h9 => h9) rfl dX6_init_129 ?_
      refine lv_iload_n hx hb dX6_init_132 rfl (lv_at hl 0 rfl) ?_
      have hR1 : 234 + 8 * i + 8 ≤ 250 := by omega
      have hR2 : 2017 + 56 * i + 56 ≤ 2129 := by omega
      have h_1 : 234 + 8 * i + 1 ≤ 250 := by omega
      have h_2 : 2017 + 56 * i + 12 ≤ 2129 := by omega
      refine va_new (ci := 5) (fs := [.null, .null, .null, .null, .null, .null, .null, .int 0, .int 0, .int 0, .int 0, .int 0]) (C := RX5) (T := TX5) (N := 12) hx hb hts (by decide +kernel) tyX5 tyX5_ok hown (hts (.classLink RX6 22 RX5) (by decide +kernel)) (hts (.instantiable RX5 12) (by decide +kernel)) (hts (.initialized RX5) (by decide +kernel)) hK hP hD hS hA rfl (fun j hj => by rcases (show j = 0 ∨ j = 1 ∨ j = 2 ∨ j = 3 ∨ j = 4 ∨ j = 5 ∨ j = 6 ∨ j = 7 ∨ j = 8 ∨ j = 9 ∨ j = 10 ∨ j = 11 by omega) with rfl | rfl | rfl | rfl | rfl | rfl | rfl | rfl | rfl | rfl | rfl | rfl <;> rfl) h_1 h_2 dX6_init_133 (fun qn H hP hD hS => ?_)
      refine W.widen (k := 234 + 8 * i + 1) (n := 2017 + 56 * i + 12) (by omega) (by omega) ?_
      have hP : va_P D vwCl (([(h0, .inr (6, [.ref ra, .ref tq, .ref nq, .ref dq, .ref ia, .ref pq, .ref rq, .ref aq, .int 0, .int 0])), (ra, .inl (cR, 8, .inr (.inr (.inr (.inr (refsF 8 rqs))))))] ++ wd4 cI tq ta ++ wd5 cI nq na ++ wd5 cI dq da ++ [(ia, .inl (cW, 2, .inr (.inr (.inr (.inr (refsF i q))))))] ++ wd1 cI cW pq par pqs pas ++ wd2 cI rq rra ++ wd0 cI aq aa ++ (List.range 8).flatMap (fun j => wd3 cI (rqs j) (ras j))) ++ (List.range i).flatMap (fun j => wd5 cI (q j) (a j)) ++ [(qn, .inr (5, [.null, .null, .null, .null, .null, .null, .null, .int 0, .int 0, .int 0, .int 0, .int 0]))]) H := hP
      have hD : va_D (va_A [(h0, .inr (6, [.null, .null, .null, .null, .null, .null, .null, .null, .int 0, .int 0]))] s.heap.size) (([(h0, .inr (6, [.ref ra, .ref tq, .ref nq, .ref dq, .ref ia, .ref pq, .ref rq, .ref aq, .int 0, .int 0])), (ra, .inl (cR, 8, .inr (.inr (.inr (.inr (refsF 8 rqs))))))] ++ wd4 cI tq ta ++ wd5 cI nq na ++ wd5 cI dq da ++ [(ia, .inl (cW, 2, .inr (.inr (.inr (.inr (refsF i q))))))] ++ wd1 cI cW pq par pqs pas ++ wd2 cI rq rra ++ wd0 cI aq aa ++ (List.range 8).flatMap (fun j => wd3 cI (rqs j) (ras j))) ++ (List.range i).flatMap (fun j => wd5 cI (q j) (a j)) ++ [(qn, .inr (5, [.null, .null, .null, .null, .null, .null, .null, .int 0, .int 0, .int 0, .int 0, .int 0]))]) := hD
      refine lv_dup hx hb dX6_init_136 rfl ?_
      have hkc : 234 + 8 * i + 1 + 7 ≤ 250 := by omega
      have hks : 2017 + 56 * i + 12 + 44 ≤ 2129 := by omega
      have hFc := va_free1 hD hS hA
      refine va_callv (va_runIN (As := []) (rest := [.ref qn, .int (nI i), .ref ia]) ⟨hx, hb, hml, hown, hts⟩ (ctX5_init l D cI cZ qn H.size) ⟨va_cnB 0 hts gX6_init_X5_init_n24 rfl rfl rfl (hGN.2.1 _ (List.mem_of_getElem? (i := 1) rfl)) (hts (.initialized RX5) (by decide +kernel)) (by decide +kernel) ⟨Nat.le_of_ble_eq_true rfl, Nat.le_of_ble_eq_true rfl⟩, rfl, hts (.instanceMethod yX5_init) (by decide +kernel)⟩ ⟨PcN.blind, fun U hU hW => ⟨rfl, by rw [hU], by rw [hU]; exact va_P1 hP, hGN.moved hW⟩⟩ rfl rfl hl.1 rfl (lv_room (Nat.le_of_ble_eq_true rfl)) dX6_init_137 ⟨hkc, hks⟩) hS (fun q _ h => hFc q h) hFc (fun u t H1 locs ht hvm hw hB hz1 hk1 hS => ?_)
      obtain ⟨hP1, hD1⟩ := hB
      rw [ht] at hP1
      obtain ⟨hP, hD⟩ := va_join1 hP hD hk1 hFc hP1 hD1
      generalize H1 = H at hP hS ⊢
      refine va_astq hx hb hK hP hD hS 20 3 (([(h0, .inr (6, [.ref ra, .ref tq, .ref nq, .ref dq, .ref ia, .ref pq, .ref rq, .ref aq, .int 0, .int 0])), (ra, .inl (cR, 8, .inr (.inr (.inr (.inr (refsF 8 rqs))))))] ++ wd4 cI tq ta ++ wd5 cI nq na ++ wd5 cI dq da ++ [(ia, .inl (cW, 2, .inr (.inr (.inr (.inr (refsF i q))))))] ++ wd1 cI cW pq par pqs pas ++ wd2 cI rq rra ++ wd0 cI aq aa ++ (List.range 8).flatMap (fun j => wd3 cI (rqs j) (ras j))) ++ (List.range i).flatMap (fun j => wd5 cI (q j) (a j)) : va_W).length 5 rfl rfl (head_at _ _ _) rfl (vp_in_nI (by omega) (by decide)) dX6_init_140 (fun H locs hP hD hS => ?_)
      rw [nI_clamp (by omega), refsF_step, LW_set (X' := [(h0, .inr (6, [.ref ra, .ref tq, .ref nq, .ref dq, .ref ia, .ref pq, .ref rq, .ref aq, .int 0, .int 0])), (ra, .inl (cR, 8, .inr (.inr (.inr (.inr (refsF 8 rqs))))))] ++ wd4 cI tq ta ++ wd5 cI nq na ++ wd5 cI dq da ++ [(ia, .inl (cW, 2, .inr (.inr (.inr (.inr (refsF (i + 1) (fnx q i qn)))))))] ++ wd1 cI cW pq par pqs pas ++ wd2 cI rq rra ++ wd0 cI aq aa ++ (List.range 8).flatMap (fun j => wd3 cI (rqs j) (ras j))) rfl (Nat.le_of_ble_eq_true rfl), flat_fnx (f := wd5 cI)] at hP hD
      refine lv_iinc (v := nI (i + 1)) (lv' := [(1, .int (nI (i + 1))), (0, .ref h0)]) hx hb dX6_init_141 hl (k := 0) rfl (nI_1 i) (by decide) rfl (fun ls hl => ?_)
      refine lv_goto (tgt := 119) hx hb dX6_init_144 (by decide) ?_
      refine W.widen (k := 234 + 8 * (i + 1)) (n := 2017 + 56 * (i + 1)) (by omega) (by omega) ?_
      exact ih (i + 1) (by omega) _ _ H locs ls hP hD hS hl
  have keyR : ∀ (n i : Nat), i + n = 8 → ∀ (q : Nat → Nat) (a : Nat → Nat → Nat) (H : Heap) (locs : List Loc) (ls : Array Slot), va_P D vwCl (([(h0, .inr (6, [.ref ra, .ref tq, .ref nq, .ref dq, .ref ia, .ref pq, .ref rq, .ref aq, .int 0, .int 0])), (ra, .inl (cR, 8, .inr (.inr (.inr (.inr (refsF i q))))))] ++ wd4 cI tq ta ++ wd5 cI nq na ++ wd5 cI dq da ++ [(ia, .inl (cW, 2, .inr (.inr (.inr (.inr (fun _ => none))))))] ++ wd1 cI cW pq par pqs pas ++ wd2 cI rq rra ++ wd0 cI aq aa) ++ (List.range i).flatMap (fun j => wd3 cI (q j) (a j))) H → va_D (va_A [(h0, .inr (6, [.null, .null, .null, .null, .null, .null, .null, .null, .int 0, .int 0]))] s.heap.size) (([(h0, .inr (6, [.ref ra, .ref tq, .ref nq, .ref dq, .ref ia, .ref pq, .ref rq, .ref aq, .int 0, .int 0])), (ra, .inl (cR, 8, .inr (.inr (.inr (.inr (refsF i q))))))] ++ wd4 cI tq ta ++ wd5 cI nq na ++ wd5 cI dq da ++ [(ia, .inl (cW, 2, .inr (.inr (.inr (.inr (fun _ => none))))))] ++ wd1 cI cW pq par pqs pas ++ wd2 cI rq rra ++ wd0 cI aq aa) ++ (List.range i).flatMap (fun j => wd3 cI (q j) (a j))) → va_S (va_A [(h0, .inr (6, [.null, .null, .null, .null, .null, .null, .null, .null, .int 0, .int 0]))] s.heap.size) s.heap H locs → lv_has ls 2 [(1, .int (nI i)), (0, .ref h0)] → W p l e (headSpec wsX6_init rmX6_init).room s m #[.ref h0] below meth c H locs (218 + 2 * i) (1665 + 44 * i) (MQ below (va_Qv (fun (_ : ClassId × ClassId × (Nat → Nat) × (Nat → Nat → Nat) × (Nat → Nat → Nat → Nat)) => True) (fun u t => va_P D vwCl (wd6 cI u.1 u.2.1 h0 u.2.2.1 u.2.2.2.1 u.2.2.2.2) t.heap ∧ va_D (va_A [(h0, .inr (6, [.null, .null, .null, .null, .null, .null, .null, .null, .int 0, .int 0]))] s.heap.size) (wd6 cI u.1 u.2.1 h0 u.2.2.1 u.2.2.2.1 u.2.2.2.2) ∧ va_K D vwCl [(u.1, .object "BarkNames$Row"), (u.2.1, .object "BarkNames$Wood")] t) (va_A [(h0, .inr (6, [.null, .null, .null, .null, .null, .null, .null, .null, .int 0, .int 0]))] s.heap.size)) #[.ref h0] s 250 2129 (va_A [(h0, .inr (6, [.null, .null, .null, .null, .null, .null, .null, .null, .int 0, .int 0]))] s.heap.size)) (F0 m 89 ls []) := by
    intro n
    induction n with
    | zero =>
      intro i hi q a H locs ls hP hD hS hl
      obtain rfl : i = 8 := by omega
      refine lv_iload_n hx hb dX6_init_89 rfl (lv_at hl 0 rfl) ?_
      refine lv_aload_n hx hb dX6_init_90 rfl (lv_at hl 1 rfl) ?_
      refine va_get (D := D) (ci := 6) (C := RX6) (T := TX6) (N := 10) hx hb hts (by decide +kernel) hown hK hP 0 rfl rfl 0 (by decide) (hts (.fieldLink RX6 11 "BarkNames" "rows" "[LBarkNames$Row;") (by decide +kernel)) (fun _ h9 => h9) rfl dX6_init_91 ?_
      refine va_alen hx hb hK hP 1 2 rfl rfl (v := nI 8) rfl dX6_init_94 ?_
      refine lv_icmp_ge (tgt := 117) hx hb dX6_init_95 (by decide) (fun _ => ?_) (fun c9 => absurd (nI_le (Nat.le_refl 8) (by decide)) c9)
      refine lv_iconst (v := 0) hx hb dX6_init_117 (by decide) ?_
      refine lv_istore_n (lv' := [(1, .int 0), (0, .ref h0)]) hx hb dX6_init_118 rfl hl (by decide) rfl (fun ls hl => ?_)
      refine W.widen (k := 234 + 8 * 0) (n := 2017 + 56 * 0) (by decide) (by decide) ?_
      refine keyI q a 2 0 rfl (fun _ => 0) (fun _ _ => 0) H locs ls ?_ ?_ hS hl
      · rw [refsF_0, List.range_zero, List.flatMap_nil, List.append_nil]; exact hP
      · rw [refsF_0, List.range_zero, List.flatMap_nil, List.append_nil]; exact hD
    | succ n ih =>
      intro i hi q a H locs ls hP hD hS hl
      refine lv_iload_n hx hb dX6_init_89 rfl (lv_at hl 0 rfl) ?_
      refine lv_aload_n hx hb dX6_init_90 rfl (lv_at hl 1 rfl) ?_
      refine va_get (D := D) (ci := 6) (C := RX6) (T := TX6) (N := 10) hx hb hts (by decide +kernel) hown hK hP 0 rfl rfl 0 (by decide) (hts (.fieldLink RX6 11 "BarkNames" "rows" "[LBarkNames$Row;") (by decide +kernel)) (fun _ h9 => h9) rfl dX6_init_91 ?_
      refine va_alen hx hb hK hP 1 2 rfl rfl (v := nI 8) rfl dX6_init_94 ?_
      refine lv_icmp_ge (tgt := 117) hx hb dX6_init_95 (by decide) (fun c9 => absurd c9 (nI_ge (by omega) (by decide))) (fun _ => ?_)
      refine lv_aload_n hx hb dX6_init_98 rfl (lv_at hl 1 rfl) ?_
      refine va_get (D := D) (ci := 6) (C := RX6) (T := TX6) (N := 10) hx hb hts (by decide +kernel) hown hK hP 0 rfl rfl 0 (by decide) (hts (.fieldLink RX6 11 "BarkNames" "rows" "[LBarkNames$Row;") (by decide +kernel)) (fun _ h9 => h9) rfl dX6_init_99 ?_
      refine lv_iload_n hx hb dX6_init_102 rfl (lv_at hl 0 rfl) ?_
      have hR1 : 218 + 2 * i + 2 ≤ 250 := by omega
      have hR2 : 1665 + 44 * i + 44 ≤ 2129 := by omega
      have h_1 : 218 + 2 * i + 1 ≤ 250 := by omega
      have h_2 : 1665 + 44 * i + 4 ≤ 2129 := by omega
      refine va_new (ci := 3) (fs := [.null, .int 0, .int 0, .int 0]) (C := RX3) (T := TX3) (N := 4) hx hb hts (by decide +kernel) tyX3 tyX3_ok hown (hts (.classLink RX6 9 RX3) (by decide +kernel)) (hts (.instantiable RX3 4) (by decide +kernel)) (hts (.initialized RX3) (by decide +kernel)) hK hP hD hS hA rfl (fun j hj => by rcases (show j = 0 ∨ j = 1 ∨ j = 2 ∨ j = 3 by omega) with rfl | rfl | rfl | rfl <;> rfl) h_1 h_2 dX6_init_103 (fun qn H hP hD hS => ?_)
      refine W.widen (k := 218 + 2 * i + 1) (n := 1665 + 44 * i + 4) (by omega) (by omega) ?_
      have hP : va_P D vwCl (([(h0, .inr (6, [.ref ra, .ref tq, .ref nq, .ref dq, .ref ia, .ref pq, .ref rq, .ref aq, .int 0, .int 0])), (ra, .inl (cR, 8, .inr (.inr (.inr (.inr (refsF i q))))))] ++ wd4 cI tq ta ++ wd5 cI nq na ++ wd5 cI dq da ++ [(ia, .inl (cW, 2, .inr (.inr (.inr (.inr (fun _ => none))))))] ++ wd1 cI cW pq par pqs pas ++ wd2 cI rq rra ++ wd0 cI aq aa) ++ (List.range i).flatMap (fun j => wd3 cI (q j) (a j)) ++ [(qn, .inr (3, [.null, .int 0, .int 0, .int 0]))]) H := hP
      have hD : va_D (va_A [(h0, .inr (6, [.null, .null, .null, .null, .null, .null, .null, .null, .int 0, .int 0]))] s.heap.size) (([(h0, .inr (6, [.ref ra, .ref tq, .ref nq, .ref dq, .ref ia, .ref pq, .ref rq, .ref aq, .int 0, .int 0])), (ra, .inl (cR, 8, .inr (.inr (.inr (.inr (refsF i q))))))] ++ wd4 cI tq ta ++ wd5 cI nq na ++ wd5 cI dq da ++ [(ia, .inl (cW, 2, .inr (.inr (.inr (.inr (fun _ => none))))))] ++ wd1 cI cW pq par pqs pas ++ wd2 cI rq rra ++ wd0 cI aq aa) ++ (List.range i).flatMap (fun j => wd3 cI (q j) (a j)) ++ [(qn, .inr (3, [.null, .int 0, .int 0, .int 0]))]) := hD
      refine lv_dup hx hb dX6_init_106 rfl ?_
      have hkc : 218 + 2 * i + 1 + 1 ≤ 250 := by omega
      have hks : 1665 + 44 * i + 4 + 40 ≤ 2129 := by omega
      have hFc := va_free1 hD hS hA
      refine va_callv (va_runIN (As := []) (rest := [.ref qn, .int (nI i), .ref ra]) ⟨hx, hb, hml, hown, hts⟩ (ctX3_init l D cI cZ qn H.size) ⟨va_cnB 0 hts gX6_init_X3_init_n57 rfl rfl rfl (hGN.2.1 _ (List.mem_of_getElem? (i := 5) rfl)) (hts (.initialized RX3) (by decide +kernel)) (by decide +kernel) ⟨Nat.le_of_ble_eq_true rfl, Nat.le_of_ble_eq_true rfl⟩, rfl, hts (.instanceMethod yX3_init) (by decide +kernel)⟩ ⟨PcN.blind, fun U hU hW => ⟨rfl, by rw [hU], by rw [hU]; exact va_P1 hP, hGN.moved hW⟩⟩ rfl rfl hl.1 rfl (lv_room (Nat.le_of_ble_eq_true rfl)) dX6_init_107 ⟨hkc, hks⟩) hS (fun q _ h => hFc q h) hFc (fun u t H1 locs ht hvm hw hB hz1 hk1 hS => ?_)
      obtain ⟨hP1, hD1⟩ := hB
      rw [ht] at hP1
      obtain ⟨hP, hD⟩ := va_join1 hP hD hk1 hFc hP1 hD1
      generalize H1 = H at hP hS ⊢
      refine va_astq hx hb hK hP hD hS 1 2 (([(h0, .inr (6, [.ref ra, .ref tq, .ref nq, .ref dq, .ref ia, .ref pq, .ref rq, .ref aq, .int 0, .int 0])), (ra, .inl (cR, 8, .inr (.inr (.inr (.inr (refsF i q))))))] ++ wd4 cI tq ta ++ wd5 cI nq na ++ wd5 cI dq da ++ [(ia, .inl (cW, 2, .inr (.inr (.inr (.inr (fun _ => none))))))] ++ wd1 cI cW pq par pqs pas ++ wd2 cI rq rra ++ wd0 cI aq aa) ++ (List.range i).flatMap (fun j => wd3 cI (q j) (a j)) : va_W).length 3 rfl rfl (head_at _ _ _) rfl (vp_in_nI (by omega) (by decide)) dX6_init_110 (fun H locs hP hD hS => ?_)
      rw [nI_clamp (by omega), refsF_step, LW_set (X' := [(h0, .inr (6, [.ref ra, .ref tq, .ref nq, .ref dq, .ref ia, .ref pq, .ref rq, .ref aq, .int 0, .int 0])), (ra, .inl (cR, 8, .inr (.inr (.inr (.inr (refsF (i + 1) (fnx q i qn)))))))] ++ wd4 cI tq ta ++ wd5 cI nq na ++ wd5 cI dq da ++ [(ia, .inl (cW, 2, .inr (.inr (.inr (.inr (fun _ => none))))))] ++ wd1 cI cW pq par pqs pas ++ wd2 cI rq rra ++ wd0 cI aq aa) rfl (Nat.le_of_ble_eq_true rfl), flat_fnx (f := wd3 cI)] at hP hD
      refine lv_iinc (v := nI (i + 1)) (lv' := [(1, .int (nI (i + 1))), (0, .ref h0)]) hx hb dX6_init_111 hl (k := 0) rfl (nI_1 i) (by decide) rfl (fun ls hl => ?_)
      refine lv_goto (tgt := 89) hx hb dX6_init_114 (by decide) ?_
      refine W.widen (k := 218 + 2 * (i + 1)) (n := 1665 + 44 * (i + 1)) (by omega) (by omega) ?_
      exact ih (i + 1) (by omega) _ _ H locs ls hP hD hS hl
  refine W.widen (k := 218 + 2 * 0) (n := 1665 + 44 * 0) (by decide) (by decide) ?_
  refine keyR 8 0 rfl (fun _ => 0) (fun _ _ => 0) H locs ls ?_ ?_ hS hl
  · rw [refsF_0, List.range_zero, List.flatMap_nil, List.append_nil]; exact hP
  · rw [refsF_0, List.range_zero, List.flatMap_nil, List.append_nil]; exact hD
