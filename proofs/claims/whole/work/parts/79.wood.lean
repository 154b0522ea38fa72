/-! a wood read -/
theorem c_w {b : Nat → Int} {L : Nat} {fk : Int} {p : Nat} (hL : L ≤ 140) (hb : ∀ k, k < L → 0 ≤ b k ∧ b k ≤ 255) (hp : p ≤ L) :
    (p + 1 ≤ L ∧ (∀ σ, Cc b L σ p → ∃ σ', (∀ K, KS σ 119 K = K σ') ∧ Cc b L σ' (p + 1) ∧ oC σ σ') ∧ (∀ τ, Mw b L fk τ p → (τ 7 0 11 = 1 ∧ τ 7 0 12 = 119) ∧ ∃ x τ', fX7_takes τ 1 1 = some (x, τ') ∧ Mw b L fk τ' (p + 1) ∧ oM τ τ')) ∨
    ((∀ σ, Cc b L σ p → ∃ σ', (∀ K, KS σ 119 K = some (0, σ')) ∧ Cf σ' 1 p ∧ oC σ σ') ∧ (∀ τ, Mw b L fk τ p → ¬ (τ 7 0 11 = 1 ∧ τ 7 0 12 = 119) ∧ ∃ τ', fX7_takes τ 0 1 = some (0, τ') ∧ Mf τ' 1 p ∧ oM τ τ')) := by
  by_cases q : bat b L p = 119
  · have hpl : p < L := by
      unfold bat at q
      split at q
      · assumption
      · omega
    refine Or.inl ⟨by omega, fun σ h => ?_, fun τ h => ?_⟩
    · obtain ⟨-, σ', e, h1, h2⟩ := reads_ok hL h q (by omega)
      refine ⟨σ', fun K => ?_, h1, h2⟩
      unfold KS
      rw [e, cl_pos, if_neg (by omega)]
    · obtain ⟨τ', e, h1, h2⟩ := take_ch hL hb h hp (by omega) (by omega) (v1 := 1) 1 (by omega)
      obtain ⟨t1, t2⟩ := tok_let h hp
      have t3 := t2.mpr (by omega)
      exact ⟨⟨t3, (t1 t3).trans q⟩, _, τ', e, h1, h2⟩
  · refine Or.inr ⟨fun σ h => ?_, fun τ h => ?_⟩
    · obtain ⟨σ', e, h1, h2⟩ := reads_no hL h q
      refine ⟨σ', fun K => ?_, h1, h2⟩
      unfold KS
      rw [e, cl_pos, if_pos rfl]
    · obtain ⟨τ', e, h1, h2⟩ := take_no h 1
      obtain ⟨t1, t2⟩ := tok_let h hp
      exact ⟨fun z => q ((t1 z.1).symm.trans z.2), τ', e, h1, h2⟩
theorem b_trees {b : Nat → Int} {L : Nat} {fk : Int} (hL : L ≤ 140) (hb : ∀ k, k < L → 0 ≤ b k ∧ b k ≤ 255) : ∀ (d T p : Nat) (D : Wv), T + d = 5 → p ≤ L → WF 999 D → D 2 = T → D 3 = 0 → 0 < D 0 →
    (∃ (p' : Nat) (W : Wv), p' ≤ L ∧ WF 999 W ∧ W 3 = 0 ∧ 0 < W 0 ∧ (∀ σ n, d + 1 ≤ n → Cc b L σ p → RelW σ 1 D → ∃ σ', lX4_tells_17 n σ 1 T = lX4_tells_47 FU σ' 1 0 ∧ Cc b L σ' p' ∧ RelW σ' 1 W ∧ oCW σ σ') ∧ (∀ τ n, d + 1 ≤ n → Mw b L fk τ p → τ 28 0 = D → ∃ τ', lX7_wood_95 n τ = lX7_wood_127 FU τ' ∧ Mw b L fk τ' p' ∧ τ' 28 0 = W ∧ oMD τ τ')) ∨
    (∃ k q : Nat, (∀ σ n, d + 1 ≤ n → Cc b L σ p → RelW σ 1 D → ∃ σ' x, lX4_tells_17 n σ 1 T = some (0, σ') ∧ Cf σ' k q ∧ RelW σ' 1 x ∧ oCW σ σ') ∧ (∀ τ n, d + 1 ≤ n → Mw b L fk τ p → τ 28 0 = D → ∃ τ', lX7_wood_95 n τ = lX7_wood_127 FU τ' ∧ Mf τ' k q ∧ oMD τ τ')) := by
  intro d
  induction d with
  | zero =>
    intro T p D hT hp hD h2 h3 h0
    have := hD.2.2.1
    omega
  | succ d ih =>
    intro T p D hT hp hD h2 h3 h0
    have h24 := hD.2.2.1
    have e5 : wr ((T : Int) + 1) = ((T + 1 : Nat) : Int) := by rw [wr_of (by omega) (by omega)]; omega
    by_cases hk : fX7_kindOf (bat b L p) = 0
    · refine Or.inl ⟨p, D, hp, hD, h3, h0, fun σ n hn h hR => ⟨σ, ?_, h, hR, oCW.rf⟩, fun τ n hn h hd => ⟨τ, ?_, h, hd, oMD.rf⟩⟩
      · obtain ⟨n, rfl⟩ : ∃ m, n = m + 1 := ⟨n - 1, by omega⟩
        rw [lX4_tells_17_e0, if_neg (by omega), kindHere4 hL h, cl_pos, if_pos hk]
      · obtain ⟨n, rfl⟩ : ∃ m, n = m + 1 := ⟨n - 1, by omega⟩
        rw [lX7_wood_95_e0, if_neg (well_1 h.1.2.2.2)]
        by_cases q : τ 7 0 11 = 1
        · rw [if_pos q, (tok_let h hp).1 q, if_pos (by omega)]
        · rw [if_neg q]
    · obtain ⟨hki, hc⟩ := kind_in hk
      have mstep : ∀ (τ : Hp) (n : Nat), Mw b L fk τ p → lX7_wood_95 (n + 1) τ = cl (fX7_readsTree τ) (fun _ σ49 => lX7_wood_95 n σ49) := fun τ n h => by
        have t3 := (tok_let h hp).2.mpr hc
        rw [lX7_wood_95_e0, if_neg (well_1 h.1.2.2.2), if_pos t3, (tok_let h hp).1 t3, if_neg (by omega)]
      have cstep : ∀ (σ : Hp) (n : Nat), Cc b L σ p → lX4_tells_17 (n + 1) σ 1 T = cl (fX4_readsTree σ 1) (fun r17 σ18 => if r17 = 0 then some (0, σ18) else lX4_tells_17 n σ18 1 ((T + 1 : Nat) : Int)) := fun σ n h => by
        rw [lX4_tells_17_e0, if_neg (by omega), kindHere4 hL h, cl_pos, if_neg hk, e5]
      rcases b_tree (fk := fk) hL hb hp hk hD h2 with ⟨p1, W, hp1, hW, w2, w3, w0, ct, mt⟩ | ⟨k, q, ct, mt⟩
      · rcases ih (T + 1) p1 W (by omega) hp1 hW (by rw [w2]; omega) (by rw [w3, h3]) (by rw [w0]; exact h0) with ⟨p', W', hp', hW', w3', w0', ct', mt'⟩ | ⟨k, q, ct', mt'⟩
        · refine Or.inl ⟨p', W', hp', hW', w3', w0', fun σ n hn h hR => ?_, fun τ n hn h hd => ?_⟩
          · obtain ⟨n, rfl⟩ : ∃ m, n = m + 1 := ⟨n - 1, by omega⟩
            obtain ⟨σ1, e1, h1, R1, o1⟩ := ct σ h hR
            obtain ⟨σ2, e2, h2', R2, o2⟩ := ct' σ1 n (by omega) h1 R1
            refine ⟨σ2, ?_, h2', R2, o1.tr o2⟩
            rw [cstep σ n h, e1, cl_pos, if_neg (by omega)]
            exact e2
          · obtain ⟨n, rfl⟩ : ∃ m, n = m + 1 := ⟨n - 1, by omega⟩
            obtain ⟨τ1, e1, h1, d1, o1⟩ := mt τ h hd
            obtain ⟨τ2, e2, h2', d2, o2⟩ := mt' τ1 n (by omega) h1 d1
            refine ⟨τ2, ?_, h2', d2, o1.tr o2⟩
            rw [mstep τ n h, e1, cl_pos]
            exact e2
        · refine Or.inr ⟨k, q, fun σ n hn h hR => ?_, fun τ n hn h hd => ?_⟩
          · obtain ⟨n, rfl⟩ : ∃ m, n = m + 1 := ⟨n - 1, by omega⟩
            obtain ⟨σ1, e1, h1, R1, o1⟩ := ct σ h hR
            obtain ⟨σ2, x, e2, h2', R2, o2⟩ := ct' σ1 n (by omega) h1 R1
            refine ⟨σ2, x, ?_, h2', R2, o1.tr o2⟩
            rw [cstep σ n h, e1, cl_pos, if_neg (by omega)]
            exact e2
          · obtain ⟨n, rfl⟩ : ∃ m, n = m + 1 := ⟨n - 1, by omega⟩
            obtain ⟨τ1, e1, h1, d1, o1⟩ := mt τ h hd
            obtain ⟨τ2, e2, h2', o2⟩ := mt' τ1 n (by omega) h1 d1
            refine ⟨τ2, ?_, h2', o1.tr o2⟩
            rw [mstep τ n h, e1, cl_pos]
            exact e2
      · refine Or.inr ⟨k, q, fun σ n hn h hR => ?_, fun τ n hn h hd => ?_⟩
        · obtain ⟨n, rfl⟩ : ∃ m, n = m + 1 := ⟨n - 1, by omega⟩
          obtain ⟨σ1, e1, h1, R1, o1⟩ := ct σ h hR
          refine ⟨σ1, D, ?_, h1, R1, o1⟩
          rw [cstep σ n h, e1, cl_pos, if_pos rfl]
        · obtain ⟨n, rfl⟩ : ∃ m, n = m + 1 + 1 := ⟨n - 2, by omega⟩
          obtain ⟨τ1, e1, h1, o1⟩ := mt τ h hd
          refine ⟨τ1, ?_, h1, o1⟩
          rw [mstep τ (n + 1) h, e1, cl_pos, lX7_wood_95_e0, if_pos (well_0 h1)]
theorem b_cuts {b : Nat → Int} {L : Nat} {fk : Int} (hL : L ≤ 140) (hb : ∀ k, k < L → 0 ≤ b k ∧ b k ≤ 255) : ∀ (d N p : Nat) (D : Wv), N + d = 9 → p ≤ L → WF 999 D → D 3 = N → 0 < D 0 →
    (∃ (p' : Nat) (W : Wv), p' ≤ L ∧ WF 999 W ∧ 0 < W 0 ∧ (∀ σ n, d + 1 ≤ n → Cc b L σ p → RelW σ 1 D → ∃ σ', lX4_tells_47 n σ 1 N = jX4_tells_78 σ' 1 ∧ Cc b L σ' p' ∧ RelW σ' 1 W ∧ oCW σ σ') ∧ (∀ τ n, d + 1 ≤ n → Mw b L fk τ p → τ 28 0 = D → ∃ τ', lX7_wood_127 n τ = jX7_wood_158 τ' ∧ Mw b L fk τ' p' ∧ τ' 28 0 = W ∧ oMD τ τ')) ∨
    (∃ k q : Nat, (∀ σ n, d + 1 ≤ n → Cc b L σ p → RelW σ 1 D → ∃ σ' x, lX4_tells_47 n σ 1 N = some (0, σ') ∧ Cf σ' k q ∧ RelW σ' 1 x ∧ oCW σ σ') ∧ (∀ τ n, d + 1 ≤ n → Mw b L fk τ p → τ 28 0 = D → ∃ τ', lX7_wood_127 n τ = jX7_wood_158 τ' ∧ Mf τ' k q ∧ oMD τ τ')) := by
  intro d
  induction d with
  | zero =>
    intro N p D hN hp hD h3 h0
    have := hD.2.2.2.1
    omega
  | succ d ih =>
    intro N p D hN hp hD h3 h0
    have h34 := hD.2.2.2.1
    have h2 := hD.2.2.1
    have e5 : wr ((N : Int) + 1) = ((N + 1 : Nat) : Int) := by rw [wr_of (by omega) (by omega)]; omega
    by_cases hk : bat b L p = 99
    case neg =>
      refine Or.inl ⟨p, D, hp, hD, h0, fun σ n hn h hR => ⟨σ, ?_, h, hR, oCW.rf⟩, fun τ n hn h hd => ⟨τ, ?_, h, hd, oMD.rf⟩⟩
      · obtain ⟨n, rfl⟩ : ∃ m, n = m + 1 := ⟨n - 1, by omega⟩
        rw [lX4_tells_47_e0, if_neg (by omega), here4 hL h, cl_pos, if_neg hk]
      · obtain ⟨n, rfl⟩ : ∃ m, n = m + 1 := ⟨n - 1, by omega⟩
        rw [lX7_wood_127_e0, if_neg (well_1 h.1.2.2.2)]
        by_cases q : τ 7 0 11 = 1
        · rw [if_pos q, (tok_let h hp).1 q, if_neg hk]
        · rw [if_neg q]
    have mstep : ∀ (τ : Hp) (n : Nat), Mw b L fk τ p → lX7_wood_127 (n + 1) τ = cl (fX7_readsCut τ) (fun _ σ58 => lX7_wood_127 n σ58) := fun τ n h => by
      have t3 := (tok_let h hp).2.mpr (by omega)
      rw [lX7_wood_127_e0, if_neg (well_1 h.1.2.2.2), if_pos t3, (tok_let h hp).1 t3, if_pos hk]
    have cstep : ∀ (σ : Hp) (n : Nat), Cc b L σ p → lX4_tells_47 (n + 1) σ 1 N = cl (fX4_readsCut σ 1) (fun r30 σ31 => if r30 = 0 then some (0, σ31) else lX4_tells_47 n σ31 1 ((N + 1 : Nat) : Int)) := fun σ n h => by
      rw [lX4_tells_47_e0, if_neg (by omega), here4 hL h, cl_pos, if_pos hk, e5]
    rcases b_cut (fk := fk) (T := (D 2).toNat) hL hb hp hk hD h3 (by omega) with ⟨p1, W, hp1, hW, w2, w3, w0, ct, mt⟩ | ⟨k, q, ct, mt⟩
    · rcases ih (N + 1) p1 W (by omega) hp1 hW (by rw [w3]; omega) (by rw [w0]; exact h0) with ⟨p', W', hp', hW', w0', ct', mt'⟩ | ⟨k, q, ct', mt'⟩
      · refine Or.inl ⟨p', W', hp', hW', w0', fun σ n hn h hR => ?_, fun τ n hn h hd => ?_⟩
        · obtain ⟨n, rfl⟩ : ∃ m, n = m + 1 := ⟨n - 1, by omega⟩
          obtain ⟨σ1, e1, h1, R1, o1⟩ := ct σ h hR
          obtain ⟨σ2, e2, h2', R2, o2⟩ := ct' σ1 n (by omega) h1 R1
          refine ⟨σ2, ?_, h2', R2, o1.tr o2⟩
          rw [cstep σ n h, e1, cl_pos, if_neg (by omega)]
          exact e2
        · obtain ⟨n, rfl⟩ : ∃ m, n = m + 1 := ⟨n - 1, by omega⟩
          obtain ⟨τ1, e1, h1, d1, o1⟩ := mt τ h hd
          obtain ⟨τ2, e2, h2', d2, o2⟩ := mt' τ1 n (by omega) h1 d1
          refine ⟨τ2, ?_, h2', d2, o1.tr o2⟩
          rw [mstep τ n h, e1, cl_pos]
          exact e2
      · refine Or.inr ⟨k, q, fun σ n hn h hR => ?_, fun τ n hn h hd => ?_⟩
        · obtain ⟨n, rfl⟩ : ∃ m, n = m + 1 := ⟨n - 1, by omega⟩
          obtain ⟨σ1, e1, h1, R1, o1⟩ := ct σ h hR
          obtain ⟨σ2, x, e2, h2', R2, o2⟩ := ct' σ1 n (by omega) h1 R1
          refine ⟨σ2, x, ?_, h2', R2, o1.tr o2⟩
          rw [cstep σ n h, e1, cl_pos, if_neg (by omega)]
          exact e2
        · obtain ⟨n, rfl⟩ : ∃ m, n = m + 1 := ⟨n - 1, by omega⟩
          obtain ⟨τ1, e1, h1, d1, o1⟩ := mt τ h hd
          obtain ⟨τ2, e2, h2', o2⟩ := mt' τ1 n (by omega) h1 d1
          refine ⟨τ2, ?_, h2', o1.tr o2⟩
          rw [mstep τ n h, e1, cl_pos]
          exact e2
    · refine Or.inr ⟨k, q, fun σ n hn h hR => ?_, fun τ n hn h hd => ?_⟩
      · obtain ⟨n, rfl⟩ : ∃ m, n = m + 1 := ⟨n - 1, by omega⟩
        obtain ⟨σ1, e1, h1, R1, o1⟩ := ct σ h hR
        refine ⟨σ1, D, ?_, h1, R1, o1⟩
        rw [cstep σ n h, e1, cl_pos, if_pos rfl]
      · obtain ⟨n, rfl⟩ : ∃ m, n = m + 1 + 1 := ⟨n - 2, by omega⟩
        obtain ⟨τ1, e1, h1, o1⟩ := mt τ h hd
        refine ⟨τ1, ?_, h1, o1⟩
        rw [mstep τ (n + 1) h, e1, cl_pos, lX7_wood_127_e0, if_pos (well_0 h1)]
/-! behind the law -/
theorem w158_f {τ : Hp} {k q : Nat} (h : Mf τ k q) : jX7_wood_158 τ = jX7_wood_179 τ := by
  unfold jX7_wood_158
  rw [if_pos (well_0 h)]
theorem w127_f {τ : Hp} {k q : Nat} (h : Mf τ k q) : lX7_wood_127 FU τ = jX7_wood_179 τ := by
  obtain ⟨n, hn⟩ : ∃ n, FU = n + 1 := ⟨99999, by rw [FU_eq]⟩
  rw [hn, lX7_wood_127_e0, if_pos (well_0 h), w158_f h]
theorem w95_f {τ : Hp} {k q : Nat} (h : Mf τ k q) : lX7_wood_95 FU τ = jX7_wood_179 τ := by
  obtain ⟨n, hn⟩ : ∃ n, FU = n + 1 := ⟨99999, by rw [FU_eq]⟩
  rw [hn, lX7_wood_95_e0, if_pos (well_0 h), w127_f h]
theorem b_rest {b : Nat → Int} {L : Nat} {fk : Int} (hL : L ≤ 140) (hb : ∀ k, k < L → 0 ≤ b k ∧ b k ≤ 255) {p : Nat} {D : Wv} (hp : p ≤ L) (hD : WF 999 D) (h2 : D 2 = 0) (h3 : D 3 = 0) (h0 : 0 < D 0) :
    (∃ W : Wv, WF 999 W ∧ 0 < W 0 ∧ (∀ σ, Cc b L σ p → RelW σ 1 D → ∃ σ', lX4_tells_17 FU σ 1 0 = some (1, σ') ∧ RelW σ' 1 W ∧ oCW σ σ') ∧ (∀ τ, Mw b L fk τ p → τ 28 0 = D → ∃ τ', lX7_wood_95 FU τ = jX7_wood_179 τ' ∧ τ' 7 0 8 = -1 ∧ τ' 7 0 7 = fk ∧ τ' 28 0 = W ∧ oMD τ τ')) ∨
    (∃ k q : Nat, (∀ σ, Cc b L σ p → RelW σ 1 D → ∃ σ' x, lX4_tells_17 FU σ 1 0 = some (0, σ') ∧ Cf σ' k q ∧ RelW σ' 1 x ∧ oCW σ σ') ∧ (∀ τ, Mw b L fk τ p → τ 28 0 = D → ∃ τ', lX7_wood_95 FU τ = jX7_wood_179 τ' ∧ Mf τ' k q ∧ oMD τ τ')) := by
  rcases b_trees (fk := fk) hL hb 5 0 p D (by omega) hp hD (by rw [h2]; rfl) h3 h0 with ⟨p1, W1, hp1, hW1, w3, w0, ct, mt⟩ | ⟨k, q, ct, mt⟩
  case inr =>
    refine Or.inr ⟨k, q, fun σ h hR => ct σ FU (by rw [FU_eq]; omega) h hR, fun τ h hd => ?_⟩
    obtain ⟨τ1, e1, h1, o1⟩ := mt τ FU (by rw [FU_eq]; omega) h hd
    exact ⟨τ1, e1.trans (w127_f h1), h1, o1⟩
  rcases b_cuts (fk := fk) hL hb 9 0 p1 W1 (by omega) hp1 hW1 (by rw [w3]; rfl) w0 with ⟨p2, W2, hp2, hW2, w02, cc, mc⟩ | ⟨k, q, cc, mc⟩
  case inr =>
    refine Or.inr ⟨k, q, fun σ h hR => ?_, fun τ h hd => ?_⟩
    · obtain ⟨σ1, e1, h1, R1, o1⟩ := ct σ FU (by rw [FU_eq]; omega) h hR
      obtain ⟨σ2, x, e2, h2', R2, o2⟩ := cc σ1 FU (by rw [FU_eq]; omega) h1 R1
      exact ⟨σ2, x, e1.trans e2, h2', R2, o1.tr o2⟩
    · obtain ⟨τ1, e1, h1, d1, o1⟩ := mt τ FU (by rw [FU_eq]; omega) h hd
      obtain ⟨τ2, e2, h2', o2⟩ := mc τ1 FU (by rw [FU_eq]; omega) h1 d1
      exact ⟨τ2, (e1.trans e2).trans (w158_f h2'), h2', o1.tr o2⟩
  by_cases hend : p2 = L
  · refine Or.inl ⟨W2, hW2, w02, fun σ h hR => ?_, fun τ h hd => ?_⟩
    · obtain ⟨σ1, e1, h1, R1, o1⟩ := ct σ FU (by rw [FU_eq]; omega) h hR
      obtain ⟨σ2, e2, h2', R2, o2⟩ := cc σ1 FU (by rw [FU_eq]; omega) h1 R1
      refine ⟨σ2, (e1.trans e2).trans ?_, R2, o1.tr o2⟩
      unfold jX4_tells_78
      rw [h2'.2.1, h2'.2.2, if_pos (by omega)]
    · obtain ⟨τ1, e1, h1, d1, o1⟩ := mt τ FU (by rw [FU_eq]; omega) h hd
      obtain ⟨τ2, e2, h2', d2, o2⟩ := mc τ1 FU (by rw [FU_eq]; omega) h1 d1
      refine ⟨τ2, (e1.trans e2).trans ?_, h2'.1.2.2.2, h2'.1.2.2.1, d2, o1.tr o2⟩
      unfold jX7_wood_158
      rw [if_neg (well_1 h2'.1.2.2.2), if_pos ((tok_end hb h2' hp2).mpr hend)]
  · refine Or.inr ⟨1, p2, fun σ h hR => ?_, fun τ h hd => ?_⟩
    · obtain ⟨σ1, e1, h1, R1, o1⟩ := ct σ FU (by rw [FU_eq]; omega) h hR
      obtain ⟨σ2, e2, h2', R2, o2⟩ := cc σ1 FU (by rw [FU_eq]; omega) h1 R1
      obtain ⟨f1, f2, f3⟩ := fails4 σ2 1 p2
      have f1' : fX4_fails σ2 1 p2 = some (0, hup (hup σ2 4 0 2 ((1 : Nat) : Int)) 4 0 3 p2) := f1
      refine ⟨_, W2, (e1.trans e2).trans ?_, f2, R2.oc f3, (o1.tr o2).tr f3.w⟩
      unfold jX4_tells_78
      rw [h2'.2.1, h2'.2.2, if_neg (by omega), f1', cl_pos, if_pos rfl]
    · obtain ⟨τ1, e1, h1, d1, o1⟩ := mt τ FU (by rw [FU_eq]; omega) h hd
      obtain ⟨τ2, e2, h2', d2, o2⟩ := mc τ1 FU (by rw [FU_eq]; omega) h1 d1
      obtain ⟨τ3, e3, h3', o3⟩ := take_no h2' 1
      have e3' : fX7_takes τ2 0 1 = some (0, τ3) := e3
      refine ⟨τ3, (e1.trans e2).trans ?_, h3', (o1.tr o2).tr o3.d⟩
      unfold jX7_wood_158
      rw [if_neg (well_1 h2'.1.2.2.2), if_neg (fun z => hend ((tok_end hb h2' hp2).mp z)), e3', cl_pos]
theorem zero7_l : ∀ (d k n : Nat) (τ : Hp), k + d = 48 → d + 1 ≤ n → lX7_wood_2 n τ k = lX7_wood_2 (n - d) (srow τ 28 0 (filF (τ 28 0) k 48 0)) 48 := by
  intro d
  induction d with
  | zero =>
    intro k n τ hk hn
    obtain rfl : k = 48 := by omega
    rw [filF_end _ _ (by omega), srow_self]
    rfl
  | succ d ih =>
    intro k n τ hk hn
    obtain ⟨n, rfl⟩ : ∃ m, n = m + 1 := ⟨n - 1, by omega⟩
    have e5 : wr ((k : Int) + 1) = ((k + 1 : Nat) : Int) := by rw [wr_of (by omega) (by omega)]; omega
    rw [lX7_wood_2_e0, if_neg (by omega), gd_pos (by omega), Int.toNat_natCast, e5]
    simp only [sq]
    rw [ih (k + 1) n _ (by omega) (by omega), hup_row, srow_at, srow_srow, filF_step _ _ (by omega), show n + 1 - (d + 1) = n - d by omega]
theorem begin6 {σ : Hp} {v : Int} {D : Wv} (h0 : D 0 = v) (h1 : D 1 = 0) (h2 : D 2 = 0) (h3 : D 3 = 0) (hv : 0 < v) : ∃ σ', fX5_begin σ 1 v = some (0, σ') ∧ RelW σ' 1 D ∧ ∀ s j, ¬ (isW s ∧ j = 1) → σ' s j = σ s j := by
  refine ⟨hup (hup (hup (hup (hup σ 5 1 7 1) 5 1 8 v) 5 1 9 0) 5 1 10 0) 5 1 11 0, rfl, ?_, fun s j hs => ?_⟩
  · unfold RelW
    rw [h0, h1, h2, h3, if_pos hv]
    simp (disch := omega) only [hup_k, hup_at]
    exact ⟨trivial, trivial, trivial, trivial, trivial, fun t ht => by omega, fun c hc => by omega⟩
  · have h5 : ¬ (s = 5 ∧ j = 1) := fun z => hs ⟨by rw [z.1]; exact Or.inl rfl, z.2⟩
    rw [hup_row, srow_ne h5, hup_row, srow_ne h5, hup_row, srow_ne h5, hup_row, srow_ne h5, hup_row, srow_ne h5]
theorem Mw.d0 {b : Nat → Int} {L : Nat} {fk : Int} {τ : Hp} {p : Nat} (h : Mw b L fk τ p) (v : Int) : Mw b L fk (hup τ 28 0 0 v) p := by
  rw [hup_row]
  exact h.dr _
theorem Mf.d0 {τ : Hp} {k q : Nat} (h : Mf τ k q) (v : Int) : Mf (hup τ 28 0 0 v) k q := by
  rw [hup_row]
  exact h.dr _
theorem oMD.d0 {τ τ' : Hp} (h : oMD τ τ') (v : Int) : oMD τ (hup τ' 28 0 0 v) := by
  rw [hup_row]
  exact ⟨fun s j hs hw => by rw [srow_ne hw]; exact h.1 s j hs hw, fun k hk => by rw [srow_ne (by omega)]; exact h.2 k hk⟩
theorem w58_f {τ2 : Hp} {k q : Nat} (hf : Mf τ2 k q) (v : Int) : (if hup τ2 28 0 0 v 7 0 11 = 4 then cl (fX7_takes (hup τ2 28 0 0 v) 1 1) (fun _ σ39 => lX7_wood_95 FU σ39) else cl (fX7_takes (hup τ2 28 0 0 v) 0 1) (fun _ σ34 => lX7_wood_95 FU σ34)) = jX7_wood_179 (hup τ2 28 0 0 v) := by
  have hf' := hf.d0 v
  rw [take_f hf', take_f hf', cl_pos, w95_f hf']
  exact ite_self _
theorem cLawE (σ0 : Hp) : fX4_readsLaw σ0 1 = KS σ0 119 (fun σ2 => KN σ2 2 9 (fun r7 σ8 => KS σ8 59 (fun σ14 => cl (fX5_begin σ14 1 r7) (fun _ σ20 => some (1, σ20))))) := rfl
theorem b_all {σ : Hp} (h : Sim σ) :
    (∃ W : Wv, WF 999 W ∧ 0 < W 0 ∧ (∃ σ', fX4_tells σ 1 = some (1, σ') ∧ RelW σ' 1 W ∧ ∀ s j, s ≠ 4 → ¬ (isW s ∧ j = 1) → σ' s j = σ s j) ∧ (∀ τ : Hp, τ 26 0 = σ 26 0 → τ 7 0 = σ 7 0 → τ 28 0 = σ 28 0 → ∃ τ', fX7_wood τ = jX7_wood_179 τ' ∧ τ' 7 0 8 = -1 ∧ τ' 7 0 7 = σ 7 0 7 ∧ τ' 28 0 = W ∧ oMD τ τ')) ∨
    (∃ k q : Nat, (∃ σ', fX4_tells σ 1 = some (0, σ') ∧ Cf σ' k q ∧ (σ' 5 1 7 = 0 ∨ σ' 5 1 7 = 1) ∧ ∀ s j, s ≠ 4 → ¬ (isW s ∧ j = 1) → σ' s j = σ s j) ∧ (∀ τ : Hp, τ 26 0 = σ 26 0 → τ 7 0 = σ 7 0 → τ 28 0 = σ 28 0 → ∃ τ', fX7_wood τ = jX7_wood_179 τ' ∧ Mf τ' k q ∧ oMD τ τ')) := by
  obtain ⟨-, ⟨s1, s2, s3⟩, -⟩ := id h
  obtain ⟨L, hLe⟩ : ∃ L : Nat, σ 7 0 6 = L := ⟨(σ 7 0 6).toNat, by omega⟩
  obtain ⟨b, hbe⟩ : ∃ b, b = σ 26 0 := ⟨_, rfl⟩
  have hL : L ≤ 140 := by omega
  have hb : ∀ k, k < L → 0 ≤ b k ∧ b k ≤ 255 := fun k hk => by rw [hbe]; exact (s3 k (by omega)).2
  obtain ⟨σ0, hσ0⟩ : ∃ σ0, σ0 = hup σ 4 0 4 0 := ⟨_, rfl⟩
  have C0 : Cc b L σ0 0 := ⟨fun k hk => by rw [hσ0, hup_s (by omega), hbe]; exact (s3 k (by omega)).1, by rw [hσ0, hup_k (by omega), s1, hLe], by rw [hσ0, hup_at]; rfl⟩
  have o0 : ∀ s j, s ≠ 4 → σ0 s j = σ s j := fun s j hs => by rw [hσ0, hup_s hs]
  have told : ∀ σ' : Hp, oC σ0 σ' → σ' 5 1 7 = 0 ∨ σ' 5 1 7 = 1 := fun σ' ho => by rw [ho.1 5 1 (by omega), o0 5 1 (by omega)]; exact h.2.2.2.2.2.2 1 (by omega)
  have offC : ∀ σ' : Hp, oCW σ0 σ' → ∀ s j, s ≠ 4 → ¬ (isW s ∧ j = 1) → σ' s j = σ s j := fun σ' ho s j hs hw => (ho.1 s j hs hw).trans (o0 s j hs)
  have cE : fX4_tells σ 1 = cl (fX4_readsLaw σ0 1) (fun r4 σ5 => if r4 = 0 then some (0, σ5) else lX4_tells_17 FU σ5 1 0) := by
    rw [hσ0]
    rfl
  have mE : ∀ τ : Hp, τ 26 0 = σ 26 0 → τ 7 0 = σ 7 0 → τ 28 0 = σ 28 0 → ∃ τ1, Mw b L (σ 7 0 7) τ1 0 ∧ τ1 28 0 = filF (σ 28 0) 0 48 0 ∧ oMD τ τ1 ∧ fX7_wood τ = if τ1 7 0 11 = 1 then if τ1 7 0 12 = 119 then jX7_wood_58 τ1 1 else jX7_wood_58 τ1 0 else jX7_wood_58 τ1 0 := by
    intro τ e26 e7 e28
    obtain ⟨υ, hυ⟩ : ∃ υ, υ = hup (hup (srow τ 28 0 (filF (τ 28 0) 0 48 0)) 7 0 9 0) 7 0 8 (-1) := ⟨_, rfl⟩
    have M0 : Mt b L (σ 7 0 7) υ := ⟨fun k hk => by rw [hυ, hup_s (by omega), hup_s (by omega), srow_ne (by omega), e26, hbe], by rw [hυ, hup_k (by omega), hup_k (by omega), srow_ne (by omega), e7, hLe], by rw [hυ, hup_k (by omega), hup_k (by omega), srow_ne (by omega), e7], by rw [hυ, hup_at]⟩
    obtain ⟨τ1, e1, h1, o1⟩ := adv7 (p := 0) hL hb M0 (by rw [hυ, hup_k (by omega), hup_at]; rfl) (by omega)
    refine ⟨τ1, h1, ?_, ⟨fun s j hs hw => ?_, fun k hk => ?_⟩, ?_⟩
    · rw [o1.1 28 0 (by omega), hυ, hup_s (by omega), hup_s (by omega), srow_at, e28]
    · rw [o1.1 s j hs, hυ, hup_s hs, hup_s hs, srow_ne hw]
    · rw [o1.2 k hk, hυ, hup_k (by omega), hup_k (by omega), srow_ne (by omega)]
    · have hz := zero7_l 48 0 FU τ (by omega) (by rw [FU_eq]; omega)
      have hz' : fX7_wood τ = lX7_wood_2 (FU - 48) (srow τ 28 0 (filF (τ 28 0) 0 48 0)) 48 := hz
      obtain ⟨n, hn⟩ : ∃ n, FU - 48 = n + 1 := ⟨99951, by rw [FU_eq]⟩
      rw [hz', hn, lX7_wood_2_e0, if_pos (by omega)]
      simp only [sq]
      rw [← hυ, e1, cl_pos]
  have mS : ∀ (τ1 : Hp), (τ1 7 0 11 = 1 ∧ τ1 7 0 12 = 119) → (if τ1 7 0 11 = 1 then if τ1 7 0 12 = 119 then jX7_wood_58 τ1 1 else jX7_wood_58 τ1 0 else jX7_wood_58 τ1 0) = jX7_wood_58 τ1 1 := fun τ1 z => by rw [if_pos z.1, if_pos z.2]
  have mN : ∀ (τ1 : Hp), ¬ (τ1 7 0 11 = 1 ∧ τ1 7 0 12 = 119) → (if τ1 7 0 11 = 1 then if τ1 7 0 12 = 119 then jX7_wood_58 τ1 1 else jX7_wood_58 τ1 0 else jX7_wood_58 τ1 0) = jX7_wood_58 τ1 0 := fun τ1 z => by
    by_cases q : τ1 7 0 11 = 1
    · rw [if_pos q, if_neg (fun y => z ⟨q, y⟩)]
    · rw [if_neg q]
  -- w
  rcases c_w (fk := σ 7 0 7) hL hb (Nat.zero_le L) with ⟨hp1, cw, mw⟩ | ⟨cw, mw⟩
  case inr =>
    refine Or.inr ⟨1, 0, ?_, fun τ e26 e7 e28 => ?_⟩
    · obtain ⟨σ1, e1, h1, o1⟩ := cw σ0 C0
      refine ⟨σ1, ?_, h1, told σ1 o1, offC σ1 o1.w⟩
      rw [cE, (cLawE σ0).trans (e1 _), cl_pos, if_pos rfl]
    · obtain ⟨τ1, h1, d1, o1, e1⟩ := mE τ e26 e7 e28
      obtain ⟨t1, τ2, e2, h2, o2⟩ := mw τ1 h1
      refine ⟨hup τ2 28 0 0 0, ?_, h2.d0 0, (o1.tr o2.d).d0 0⟩
      rw [e1, mN τ1 t1]
      unfold jX7_wood_58
      rw [e2, cl_pos, fig_f h2, cl_pos]
      exact w58_f h2 0
  -- WIDE
  rcases c_num (fk := σ 7 0 7) 2 9 hL hb hp1 with ⟨p2, v, v1, v2, hp2, cn, mn⟩ | ⟨k, cn, mn⟩
  case inr =>
    refine Or.inr ⟨k, 0 + 1, ?_, fun τ e26 e7 e28 => ?_⟩
    · obtain ⟨σ1, e1, h1, o1⟩ := cw σ0 C0
      obtain ⟨σ2, -, e2, h2, o2⟩ := cn σ1 h1
      refine ⟨σ2, ?_, h2, told σ2 (o1.tr o2), offC σ2 (o1.tr o2).w⟩
      rw [cE, ((cLawE σ0).trans (e1 _)).trans (e2 _), cl_pos, if_pos rfl]
    · obtain ⟨τ1, h1, d1, o1, e1⟩ := mE τ e26 e7 e28
      obtain ⟨t1, x, τ2, e2, h2, o2⟩ := mw τ1 h1
      obtain ⟨-, τ3, e3, h3, o3⟩ := mn τ2 h2
      refine ⟨hup τ3 28 0 0 0, ?_, h3.d0 0, ((o1.tr o2.d).tr o3.d).d0 0⟩
      rw [e1, mS τ1 t1]
      unfold jX7_wood_58
      rw [e2, cl_pos, e3, cl_pos]
      exact w58_f h3 0
  -- the stop
  rcases c_sgn (fk := σ 7 0 7) (v := 59) (tk := 4) (Or.inr ⟨rfl, rfl⟩) hL hb hp2 with ⟨hp3, cs, ms⟩ | ⟨cs, ms⟩
  case inr =>
    refine Or.inr ⟨1, p2, ?_, fun τ e26 e7 e28 => ?_⟩
    · obtain ⟨σ1, e1, h1, o1⟩ := cw σ0 C0
      obtain ⟨σ2, -, e2, h2, o2⟩ := cn σ1 h1
      obtain ⟨σ3, e3, h3, o3⟩ := cs σ2 h2
      refine ⟨σ3, ?_, h3, told σ3 ((o1.tr o2).tr o3), offC σ3 ((o1.tr o2).tr o3).w⟩
      rw [cE, (((cLawE σ0).trans (e1 _)).trans (e2 _)).trans (e3 _), cl_pos, if_pos rfl]
    · obtain ⟨τ1, h1, d1, o1, e1⟩ := mE τ e26 e7 e28
      obtain ⟨t1, x, τ2, e2, h2, o2⟩ := mw τ1 h1
      obtain ⟨τ3, -, -, -, e3, h3, o3⟩ := mn τ2 h2
      obtain ⟨t4, τ4, e4, h4, o4⟩ := ms (hup τ3 28 0 0 v) (h3.d0 v)
      refine ⟨τ4, ?_, h4, (((o1.tr o2.d).tr o3.d).d0 v).tr o4.d⟩
      rw [e1, mS τ1 t1]
      unfold jX7_wood_58
      rw [e2, cl_pos, e3, cl_pos]
      simp only [sq]
      rw [if_neg t4, e4, cl_pos, w95_f h4]
  obtain ⟨D, hDe⟩ : ∃ D, D = up1 (filF (σ 28 0) 0 48 0) 0 v := ⟨_, rfl⟩
  have D0 : D 0 = v := by rw [hDe, up1_at]
  have Dk : ∀ k, 0 < k → k < 48 → D k = 0 := fun k h1 h2 => by
    rw [hDe, up1_ne (by omega)]
    exact if_pos (by omega)
  have hD : WF 999 D := ⟨by omega, by rw [Dk 1 (by omega) (by omega)]; omega, by rw [Dk 2 (by omega) (by omega)]; omega, by rw [Dk 3 (by omega) (by omega)]; omega, fun t ht => by rw [Dk 2 (by omega) (by omega)] at ht; omega, fun c hc => by rw [Dk 3 (by omega) (by omega)] at hc; omega⟩
  -- both sides behind the law
  have cB' : ∃ σ4, Cc b L σ4 (p2 + 1) ∧ RelW σ4 1 D ∧ oCW σ0 σ4 ∧ fX4_tells σ 1 = lX4_tells_17 FU σ4 1 0 := by
    obtain ⟨σ1, e1, h1, o1⟩ := cw σ0 C0
    obtain ⟨σ2, -, e2, h2, o2⟩ := cn σ1 h1
    obtain ⟨σ3, e3, h3, o3⟩ := cs σ2 h2
    obtain ⟨σ4, e4, R4, o4⟩ := begin6 (σ := σ3) (v := v) (D := D) D0 (Dk 1 (by omega) (by omega)) (Dk 2 (by omega) (by omega)) (Dk 3 (by omega) (by omega)) (by omega)
    have o13 := (o1.tr o2).tr o3
    refine ⟨σ4, h3.wd o4, R4, ⟨fun s j hs hw => by rw [o4 s j hw]; exact o13.1 s j hs, by rw [o4 4 0 (fun z => (isW_4 z.1).1 rfl)]; exact o13.2⟩, ?_⟩
    rw [cE, (((cLawE σ0).trans (e1 _)).trans (e2 _)).trans (e3 _), e4, cl_pos, cl_pos, if_neg (by omega)]
  have mB' : ∀ τ : Hp, τ 26 0 = σ 26 0 → τ 7 0 = σ 7 0 → τ 28 0 = σ 28 0 → ∃ τ4, Mw b L (σ 7 0 7) τ4 (p2 + 1) ∧ τ4 28 0 = D ∧ oMD τ τ4 ∧ fX7_wood τ = lX7_wood_95 FU τ4 := by
    intro τ e26 e7 e28
    obtain ⟨τ1, h1, d1, o1, e1⟩ := mE τ e26 e7 e28
    obtain ⟨t1, x, τ2, e2, h2, o2⟩ := mw τ1 h1
    obtain ⟨τ3, -, -, -, e3, h3, o3⟩ := mn τ2 h2
    obtain ⟨t4, y, τ4, e4, h4, o4⟩ := ms (hup τ3 28 0 0 v) (h3.d0 v)
    refine ⟨τ4, h4, ?_, (((o1.tr o2.d).tr o3.d).d0 v).tr o4.d, ?_⟩
    · rw [o4.1 28 0 (by omega), hup_row, srow_at, o3.1 28 0 (by omega), o2.1 28 0 (by omega), d1, hDe]
    · rw [e1, mS τ1 t1]
      unfold jX7_wood_58
      rw [e2, cl_pos, e3, cl_pos]
      simp only [sq]
      rw [if_pos t4, e4, cl_pos]
  obtain ⟨σ4, C4, R4, o4, eσ⟩ := cB'
  rcases b_rest (fk := σ 7 0 7) hL hb hp3 hD (Dk 2 (by omega) (by omega)) (Dk 3 (by omega) (by omega)) (by omega) with ⟨W, hW, w0, cr, mr⟩ | ⟨k, q, cr, mr⟩
  · refine Or.inl ⟨W, hW, w0, ?_, fun τ e26 e7 e28 => ?_⟩
    · obtain ⟨σ5, e5, R5, o5⟩ := cr σ4 C4 R4
      exact ⟨σ5, eσ.trans e5, R5, offC σ5 (o4.tr o5)⟩
    · obtain ⟨τ4, h4, d4, o4', e4⟩ := mB' τ e26 e7 e28
      obtain ⟨τ5, e5, q1, q2, q3, o5⟩ := mr τ4 h4 d4
      exact ⟨τ5, e4.trans e5, q1, q2, q3, o4'.tr o5⟩
  · refine Or.inr ⟨k, q, ?_, fun τ e26 e7 e28 => ?_⟩
    · obtain ⟨σ5, x, e5, h5, R5, o5⟩ := cr σ4 C4 R4
      exact ⟨σ5, eσ.trans e5, h5, R5.told, offC σ5 (o4.tr o5)⟩
    · obtain ⟨τ4, h4, d4, o4', e4⟩ := mB' τ e26 e7 e28
      obtain ⟨τ5, e5, h5, o5⟩ := mr τ4 h4 d4
      exact ⟨τ5, e4.trans e5, h5, o4'.tr o5⟩
/-! wood -/
theorem Sim.parsed {σ υ : Hp} (h : Sim σ) (ho : ∀ s j, ¬ isW s → s ≠ 1 → s ≠ 4 → s ≠ 6 → s ≠ 7 → s ≠ 27 → s ≠ 28 → υ s j = σ s j) (h4 : υ 4 0 1 = 0) (h76 : υ 7 0 6 = 0) (h68 : υ 6 0 8 = υ 7 0 7) (h69 : υ 6 0 9 = σ 6 0 9) (h74 : υ 7 0 4 = σ 7 0 4) (h721 : υ 7 0 21 = σ 7 0 21) (hB : SB υ) (ht : STold υ) : Sim υ := by
  obtain ⟨a1, a2, a3, a4, a5, a6, a7⟩ := h
  have n : ∀ s j, (s = 3 ∨ s = 11 ∨ s = 22 ∨ s = 23 ∨ s = 24 ∨ s = 12 ∨ s = 26 ∨ s = 0 ∨ s = 8 ∨ s = 33) → υ s j = σ s j := fun s j hz => ho s j (fun z => by rcases z with q | q <;> omega) (by omega) (by omega) (by omega) (by omega) (by omega) (by omega)
  have r3 : υ 3 = σ 3 := funext fun j => n 3 j (by omega)
  have r11 : υ 11 = σ 11 := funext fun j => n 11 j (by omega)
  unfold Sim
  rw [r3, r11, n 22 0 (by omega), n 23 0 (by omega), n 24 0 (by omega), n 12 0 (by omega), n 26 0 (by omega), n 0 0 (by omega), n 8 0 (by omega), n 33 0 (by omega), h4, h76, h721, h68, h69, h74]
  exact ⟨a1, ⟨rfl, by omega, fun k hk => by omega⟩, hB, a4, rfl, a6, ht⟩
theorem ok_wood {σ : Hp} (h : Sim σ) : Ok fX6_wood fX7_wood σ := by
  obtain ⟨⟨hR, hw⟩, hSP, hSI⟩ := id h.2.2.1
  have nW : ∀ s, (s = 1 ∨ s = 4 ∨ s = 6 ∨ s = 7 ∨ s = 26 ∨ s = 27 ∨ s = 28 ∨ s = 29 ∨ s = 30 ∨ s = 31) → ¬ isW s := fun s hs z => by rcases z with q | q <;> omega
  rcases b_all h with ⟨W, hW, w0, ⟨σ1, e1, R1, o1⟩, mm⟩ | ⟨k, q, ⟨σ1, e1, f1, t1, o1⟩, mm⟩
  · obtain ⟨σ2, hσ2⟩ : ∃ σ2, σ2 = hup σ1 4 0 1 0 := ⟨_, rfl⟩
    have R2 : RelW σ2 1 W := by rw [hσ2]; exact R1.cg (fun s hs => by rw [hup_s (isW_4 hs).1])
    obtain ⟨σ3, e3, o3, R3⟩ := become_rel (j0 := 0) R2 hW
    obtain ⟨σ4, hσ4⟩ : ∃ σ4, σ4 = hup σ3 1 0 2 0 := ⟨_, rfl⟩
    have R4 : RelW σ4 0 W := by
      rw [hσ4]
      exact R3.cg (fun s hs => by rw [hup_s (fun z => nW s (Or.inl z) hs)])
    have o4 : ∀ s j, s ≠ 4 → ¬ (s = 1 ∧ j = 0) → ¬ (isW s ∧ (j = 0 ∨ j = 1)) → σ4 s j = σ s j := fun s j h4 h1 hs => by
      rw [hσ4, hup_row, srow_ne h1, o3 s j (fun z => hs ⟨z.1, Or.inl z.2⟩), hσ2, hup_s h4, o1 s j h4 (fun z => hs ⟨z.1, Or.inr z.2⟩)]
    have on : ∀ s j, ¬ isW s → s ≠ 4 → s ≠ 1 → σ4 s j = σ s j := fun s j hs h4 h1 => o4 s j h4 (fun z => h1 z.1) (fun z => hs z.1)
    obtain ⟨τ, e7, m1, m2, m3, om⟩ := mm σ4 (on 26 0 (nW 26 (by omega)) (by omega) (by omega)) (on 7 0 (nW 7 (by omega)) (by omega) (by omega)) (on 28 0 (nW 28 (by omega)) (by omega) (by omega))
    obtain ⟨τ1, hτ1⟩ : ∃ τ1, τ1 = hup τ 7 0 6 0 := ⟨_, rfl⟩
    obtain ⟨V, hV⟩ : ∃ V, V = filG (τ1 27 0) 0 (0 + 48) (fun x => τ1 28 0 (0 + (x - 0))) := ⟨_, rfl⟩
    have t28 : τ1 28 0 = W := by rw [hτ1, hup_s (by omega), m3]
    have hag : agr W V := by
      intro x hx
      rw [hV]
      unfold filG
      rw [if_pos (by omega)]
      dsimp only
      rw [t28, show 0 + (x - 0) = x by omega]
    obtain ⟨υ, hυ⟩ : ∃ υ, υ = hup (srow τ1 27 0 V) 7 0 16 0 := ⟨_, rfl⟩
    have eυ : jX7_wood_179 τ = some (V 3, υ) := by
      have ec := copies_sp τ1 (s1 := 28) (j1 := 0) (s2 := 27) (j2 := 0) (A := 0) (B := 0) (by show 0 + 48 ≤ 48; omega) (by show 0 + 48 ≤ 48; omega) (by omega) (by omega) (by omega)
      rw [← hV] at ec
      have ec' : fX7_copies τ1 28 0 0 27 0 0 = some (0, srow τ1 27 0 V) := ec
      unfold jX7_wood_179
      simp only [sq]
      rw [← hτ1, if_neg (well_1 (by rw [hτ1, hup_k (by omega)]; exact m1)), ec', cl_pos, ← hυ]
      rw [show υ 27 0 = V from by rw [hυ, hup_s (by omega), srow_at]]
    have uo : ∀ s j, s ≠ 7 → ¬ (s = 28 ∧ j = 0) → ¬ (s = 27 ∧ j = 0) → υ s j = σ4 s j := fun s j h7 h28 h27 => by
      rw [hυ, hup_s h7, srow_ne h27, hτ1, hup_s h7, om.1 s j h7 h28]
    have u7 : ∀ k, k ≠ 6 → k ≠ 16 → υ 7 0 k = τ 7 0 k := fun k h6 h16 => by rw [hυ, hup_k h16, srow_ne (by omega), hτ1, hup_k h6]
    have uw : ∀ s j, isW s → υ s j = σ4 s j := fun s j hs => uo s j (by rcases hs with q | q <;> omega) (by rcases hs with q | q <;> omega) (by rcases hs with q | q <;> omega)
    have s47 : σ4 7 0 = σ 7 0 := on 7 0 (nW 7 (by omega)) (by omega) (by omega)
    have s46 : σ4 6 0 = σ 6 0 := on 6 0 (nW 6 (by omega)) (by omega) (by omega)
    have u1 : υ 1 0 = σ4 1 0 := uo 1 0 (by omega) (by omega) (by omega)
    have s41 : σ4 1 0 1 = σ 1 0 1 := by
      rw [hσ4, hup_k (by omega), o3 1 0 (fun z => nW 1 (by omega) z.1), hσ2, hup_s (by omega), o1 1 0 (by omega) (fun z => nW 1 (by omega) z.1)]
    refine ⟨V 3, σ4, υ, ?_, e7.trans eυ, ?_⟩
    · unfold fX6_wood
      rw [e1, cl_pos]
      simp only [sq]
      rw [← hσ2, if_neg (by omega), e3, cl_pos]
      unfold fX1_forget
      simp only [sq]
      rw [cl_pos, ← hσ4, R4.2.2.2.2.1, hag 3 (by omega)]
    · refine h.parsed (fun s j hs q1 q4 q6 q7 q27 q28 => ?_) ?_ ?_ ?_ ?_ ?_ ?_ ⟨⟨?_, ?_⟩, ⟨?_, ?_, ?_, fun i hi => ?_⟩, ?_⟩ ?_
      · rw [uo s j q7 (fun z => q28 z.1) (fun z => q27 z.1)]
        exact on s j hs q4 q1
      · rw [uo 4 0 (by omega) (by omega) (by omega), hσ4, hup_s (by omega), o3 4 0 (fun z => nW 4 (by omega) z.1), hσ2, hup_at]
      · rw [hυ, hup_k (by omega), srow_ne (by omega), hτ1, hup_at]
      · rw [uo 6 0 (by omega) (by omega) (by omega), s46, u7 7 (by omega) (by omega), m2]
        exact h.2.2.2.2.1
      · rw [uo 6 0 (by omega) (by omega) (by omega), s46]
      · rw [u7 4 (by omega) (by omega), om.2 4 (by omega), s47]
      · rw [u7 21 (by omega) (by omega), om.2 21 (by omega), s47]
      · rw [show υ 27 0 = V from by rw [hυ, hup_s (by omega), srow_at]]
        exact (R4.cg (fun s hs => uw s 0 hs)).agr hW hag
      · rw [show υ 27 0 = V from by rw [hυ, hup_s (by omega), srow_at]]
        exact hW.agr hag
      · rw [u1, hσ4, hup_at, hυ, hup_at]
      · rw [hυ, hup_at]; omega
      · rw [u1, s41]; exact hSP.2.2.1
      · rw [hυ, hup_at] at hi; omega
      · exact hSI.cg (fun s j hs hj => by rw [uw s j hs]; exact o4 s j (isW_4 hs).1 (fun z => by rcases hs with q | q <;> omega) (fun z => by omega)) (by rw [uo 31 0 (by omega) (by omega) (by omega)]; exact on 31 0 (nW 31 (by omega)) (by omega) (by omega)) (by rw [uo 30 0 (by omega) (by omega) (by omega)]; exact on 30 0 (nW 30 (by omega)) (by omega) (by omega))
      · intro j hj
        rw [uw 5 j (Or.inl rfl)]
        by_cases z0 : j = 0
        · subst z0; exact R4.told
        by_cases z1 : j = 1
        · subst z1
          have : σ4 5 1 = σ1 5 1 := by rw [hσ4, hup_s (by omega), o3 5 1 (by omega), hσ2, hup_s (by omega)]
          rw [this]
          exact R1.told
        · rw [o4 5 j (by omega) (by omega) (fun z => by omega)]
          exact h.2.2.2.2.2.2 j hj
  · obtain ⟨σ2, hσ2⟩ : ∃ σ2, σ2 = hup (hup σ1 4 0 1 0) 6 0 8 (k : Int) := ⟨_, rfl⟩
    have o2 : ∀ s j, s ≠ 4 → s ≠ 6 → ¬ (isW s ∧ j = 1) → σ2 s j = σ s j := fun s j h4 h6 hs => by rw [hσ2, hup_s h6, hup_s h4, o1 s j h4 hs]
    have on : ∀ s j, ¬ isW s → s ≠ 4 → s ≠ 6 → σ2 s j = σ s j := fun s j hs h4 h6 => o2 s j h4 h6 (fun z => hs z.1)
    obtain ⟨τ, e7, m1, om⟩ := mm σ2 (on 26 0 (nW 26 (by omega)) (by omega) (by omega)) (on 7 0 (nW 7 (by omega)) (by omega) (by omega)) (on 28 0 (nW 28 (by omega)) (by omega) (by omega))
    obtain ⟨υ, hυ⟩ : ∃ υ, υ = hup τ 7 0 6 0 := ⟨_, rfl⟩
    have eυ : jX7_wood_179 τ = some (wr (-1000100 - (q : Int)), υ) := by
      unfold jX7_wood_179
      simp only [sq]
      have m1' : Mf υ k q := ⟨by rw [hυ, hup_k (by omega)]; exact m1.1, by rw [hυ, hup_k (by omega)]; exact m1.2⟩
      rw [← hυ, if_pos (well_0 m1'), m1'.2]
    have uo : ∀ s j, s ≠ 7 → ¬ (s = 28 ∧ j = 0) → υ s j = σ2 s j := fun s j h7 h28 => by rw [hυ, hup_s h7, om.1 s j h7 h28]
    have uw : ∀ s j, isW s → υ s j = σ2 s j := fun s j hs => uo s j (by rcases hs with q | q <;> omega) (by rcases hs with q | q <;> omega)
    have s27' : σ2 7 0 = σ 7 0 := on 7 0 (nW 7 (by omega)) (by omega) (by omega)
    have s26' : ∀ x, x ≠ 8 → σ2 6 0 x = σ 6 0 x := fun x hx => by rw [hσ2, hup_k hx, hup_s (by omega), o1 6 0 (by omega) (fun z => nW 6 (by omega) z.1)]
    refine ⟨wr (-1000100 - (q : Int)), σ2, υ, ?_, e7.trans eυ, ?_⟩
    · unfold fX6_wood
      rw [e1, cl_pos]
      simp only [sq]
      rw [if_pos trivial, hup_k (σ := σ1) (k' := 2) (by omega), f1.1, ← hσ2, show σ2 4 0 3 = (q : Int) from by rw [hσ2, hup_s (by omega), hup_k (by omega)]; exact f1.2]
    · refine h.parsed (fun s j hs q1 q4 q6 q7 q27 q28 => ?_) ?_ ?_ ?_ ?_ ?_ ?_ ?_ ?_
      · rw [uo s j q7 (fun z => q28 z.1)]
        exact on s j hs q4 q6
      · rw [uo 4 0 (by omega) (by omega), hσ2, hup_s (by omega), hup_at]
      · rw [hυ, hup_at]
      · rw [uo 6 0 (by omega) (by omega), hσ2, hup_at, hυ, hup_k (by omega), m1.1]
      · rw [uo 6 0 (by omega) (by omega), s26' 9 (by omega)]
      · rw [hυ, hup_k (by omega), om.2 4 (by omega), s27']
      · rw [hυ, hup_k (by omega), om.2 21 (by omega), s27']
      · exact h.2.2.1.cg (fun s j hs hj => by rw [uw s j hs]; exact o2 s j (isW_4 hs).1 (by rcases hs with q | q <;> omega) (fun z => hj z.2)) (by rw [uo 27 0 (by omega) (by omega)]; exact on 27 0 (nW 27 (by omega)) (by omega) (by omega)) (by rw [uo 1 0 (by omega) (by omega), on 1 0 (nW 1 (by omega)) (by omega) (by omega)]) (by rw [uo 1 0 (by omega) (by omega), on 1 0 (nW 1 (by omega)) (by omega) (by omega)]) (by rw [uo 29 0 (by omega) (by omega)]; exact on 29 0 (nW 29 (by omega)) (by omega) (by omega)) (by rw [hυ, hup_k (by omega), om.2 16 (by omega), s27']) (by rw [uo 31 0 (by omega) (by omega)]; exact on 31 0 (nW 31 (by omega)) (by omega) (by omega)) (by rw [uo 30 0 (by omega) (by omega)]; exact on 30 0 (nW 30 (by omega)) (by omega) (by omega))
      · refine h.2.2.2.2.2.2.cg (fun j hj => ?_) ?_
        · rw [uw 5 j (Or.inl rfl)]
          exact o2 5 j (by omega) (by omega) (fun z => hj z.2)
        · rw [uw 5 1 (Or.inl rfl), hσ2, hup_s (by omega), hup_s (by omega)]
          exact t1
