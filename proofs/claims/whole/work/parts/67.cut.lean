/-! cut -/
def hasW (w : Wv) (t p : Int) (c : Nat) : Prop := ∃ i : Nat, i < c ∧ w (16 + 4 * i) = t ∧ w (18 + 4 * i) = p
theorem hasAt6_l {σ : Hp} {j : Nat} {w : Wv} {Y : Int} {t p : Int} (hR : RelW σ j w) (hw : WF Y w) : ∀ (d c n : Nat), (c : Int) + d = w 3 → d + 1 ≤ n → ¬ hasW w t p c →
    ∃ r : Int, lX5_hasCutAt_2 n σ j t p c = some (r, σ) ∧ (r = 0 ∨ r = 1) ∧ (r = 1 ↔ hasW w t p (w 3).toNat) := by
  have h3 := hw.2.2.2.1
  intro d
  induction d with
  | zero =>
    intro c n hc hn hno
    obtain ⟨n, rfl⟩ : ∃ m, n = m + 1 := ⟨n - 1, by omega⟩
    rw [lX5_hasCutAt_2_e0, if_pos (by rw [hR.2.2.2.2.1]; omega), show (w 3).toNat = c by omega]
    exact ⟨0, rfl, Or.inl rfl, fun z => absurd z (by decide), fun z => absurd z hno⟩
  | succ d ih =>
    intro c n hc hn hno
    obtain ⟨n, rfl⟩ : ∃ m, n = m + 1 := ⟨n - 1, by omega⟩
    have hcl : (c : Int) < w 3 := by omega
    have e5 : wr ((c : Int) + 1) = ((c + 1 : Nat) : Int) := by rw [wr_of (by omega) (by omega)]; omega
    obtain ⟨q1, q2, q3, q4⟩ := hR.2.2.2.2.2.2 c hcl
    have next : ¬ (w (16 + 4 * c) = t ∧ w (18 + 4 * c) = p) → ¬ hasW w t p (c + 1) := by
      rintro hq ⟨i, h1, h2, h4⟩
      by_cases e : i = c
      · subst e; exact hq ⟨h2, h4⟩
      · exact hno ⟨i, by omega, h2, h4⟩
    rw [lX5_hasCutAt_2_e0, if_neg (by rw [hR.2.2.2.2.1]; omega), gd_pos (by omega), Int.toNat_natCast, q1, e5]
    by_cases c1 : w (16 + 4 * c) = t
    · rw [if_pos c1, gd_pos (by omega), q3]
      by_cases c2 : w (18 + 4 * c) = p
      · rw [if_pos c2]
        exact ⟨1, rfl, Or.inr rfl, fun _ => ⟨c, by omega, c1, c2⟩, fun _ => rfl⟩
      · rw [if_neg c2]
        exact ih (c + 1) n (by omega) (by omega) (next (fun z => c2 z.2))
    · rw [if_neg c1]
      exact ih (c + 1) n (by omega) (by omega) (next (fun z => c1 z.1))
theorem hasAt6 {σ : Hp} {j : Nat} {w : Wv} {Y : Int} (hR : RelW σ j w) (hw : WF Y w) (t p : Int) : ∃ r : Int, fX5_hasCutAt σ j t p = some (r, σ) ∧ (r = 0 ∨ r = 1) ∧ (r = 1 ↔ hasW w t p (w 3).toNat) := by
  have h3 := hw.2.2.2.1
  unfold fX5_hasCutAt
  exact hasAt6_l hR hw (w 3).toNat 0 FU (by omega) (by rw [FU_eq]; omega) (fun ⟨i, h, _⟩ => by omega)
theorem cutAt7_1 {σ : Hp} {s j : Nat} {w : Wv} {Y : Int} {t p : Int} (e : σ s j = w) (hl : 48 ≤ alen s) (hw : WF Y w) : ∀ (d c n : Nat), (c : Int) + d = w 3 → d + 1 ≤ n → lX7_isCutAt_5 n σ s j t p 1 c = some (1, σ) := by
  have h3 := hw.2.2.2.1
  have hla : (48 : Int) ≤ (alen s : Int) := by omega
  intro d
  induction d with
  | zero =>
    intro c n hc hn
    obtain ⟨n, rfl⟩ : ∃ m, n = m + 1 := ⟨n - 1, by omega⟩
    rw [lX7_isCutAt_5_e0, gd_pos (by omega), e, if_pos (by omega), gd_pos (by omega)]
  | succ d ih =>
    intro c n hc hn
    obtain ⟨n, rfl⟩ : ∃ m, n = m + 1 := ⟨n - 1, by omega⟩
    have e5 : wr ((c : Int) + 1) = ((c + 1 : Nat) : Int) := by rw [wr_of (by omega) (by omega)]; omega
    rw [lX7_isCutAt_5_e0, gd_pos (by omega), e, if_neg (by omega), if_neg (by omega), e5]
    exact ih (c + 1) n (by omega) (by omega)
theorem cutAt7_l {σ : Hp} {s j : Nat} {w : Wv} {Y : Int} {t p : Int} (e : σ s j = w) (hl : 48 ≤ alen s) (hw : WF Y w) : ∀ (d c n : Nat), (c : Int) + d = w 3 → d + 1 ≤ n → ¬ hasW w t p c →
    ∃ r : Int, lX7_isCutAt_5 n σ s j t p 0 c = some (r, σ) ∧ (r = 0 ∨ r = 1) ∧ (r = 1 ↔ hasW w t p (w 3).toNat) := by
  have h3 := hw.2.2.2.1
  have hla : (48 : Int) ≤ (alen s : Int) := by omega
  intro d
  induction d with
  | zero =>
    intro c n hc hn hno
    obtain ⟨n, rfl⟩ : ∃ m, n = m + 1 := ⟨n - 1, by omega⟩
    rw [lX7_isCutAt_5_e0, gd_pos (by omega), e, if_pos (by omega), gd_pos (by omega), show (w 3).toNat = c by omega]
    exact ⟨0, rfl, Or.inl rfl, fun z => absurd z (by decide), fun z => absurd z hno⟩
  | succ d ih =>
    intro c n hc hn hno
    obtain ⟨n, rfl⟩ : ∃ m, n = m + 1 := ⟨n - 1, by omega⟩
    have hcl : (c : Int) < w 3 := by omega
    have e5 : wr ((c : Int) + 1) = ((c + 1 : Nat) : Int) := by rw [wr_of (by omega) (by omega)]; omega
    have e2 : wr (((16 + 4 * c : Nat) : Int) + 2) = ((18 + 4 * c : Nat) : Int) := by rw [wr_of (by omega) (by omega)]; omega
    have next : ¬ (w (16 + 4 * c) = t ∧ w (18 + 4 * c) = p) → ¬ hasW w t p (c + 1) := by
      rintro hq ⟨i, h1, h2, h4⟩
      by_cases e : i = c
      · subst e; exact hq ⟨h2, h4⟩
      · exact hno ⟨i, by omega, h2, h4⟩
    rw [lX7_isCutAt_5_e0, gd_pos (by omega), e, if_neg (by omega), if_pos rfl, wr16c (by omega), gd_pos (by omega), Int.toNat_natCast, e2, e5]
    by_cases c1 : w (16 + 4 * c) = t
    · rw [if_pos c1, gd_pos (by omega), Int.toNat_natCast]
      by_cases c2 : w (18 + 4 * c) = p
      · rw [if_pos c2, cutAt7_1 e hl hw d (c + 1) n (by omega) (by omega)]
        exact ⟨1, rfl, Or.inr rfl, fun _ => ⟨c, by omega, c1, c2⟩, fun _ => rfl⟩
      · rw [if_neg c2]
        exact ih (c + 1) n (by omega) (by omega) (next (fun z => c2 z.2))
    · rw [if_neg c1]
      exact ih (c + 1) n (by omega) (by omega) (next (fun z => c1 z.1))
theorem cutAt7 {σ : Hp} {s j : Nat} {w : Wv} {Y : Int} (e : σ s j = w) (hl : 48 ≤ alen s) (hw : WF Y w) (t p : Int) : ∃ r : Int, fX7_isCutAt σ s j t p = some (r, σ) ∧ (r = 0 ∨ r = 1) ∧ (r = 1 ↔ hasW w t p (w 3).toNat) := by
  have h3 := hw.2.2.2.1
  unfold fX7_isCutAt
  exact cutAt7_l e hl hw (w 3).toNat 0 FU (by omega) (by rw [FU_eq]; omega) (fun ⟨i, h, _⟩ => by omega)
/-- a cut more -/
def addW (w : Wv) (a b c d : Int) : Wv := up1 (up1 (up1 (up1 (up1 w (16 + 4 * (w 3).toNat) a) (17 + 4 * (w 3).toNat) b) (18 + 4 * (w 3).toNat) c) (19 + 4 * (w 3).toNat) d) 3 (w 3 + 1)
theorem addW_3 (w : Wv) (a b c d : Int) : addW w a b c d 3 = w 3 + 1 := up1_at _ _ _
theorem addW_lo (w : Wv) (a b c d : Int) {k : Nat} (h3 : k ≠ 3) (h : k < 16) : addW w a b c d k = w k := by
  unfold addW
  rw [up1_ne h3, up1_ne (by omega), up1_ne (by omega), up1_ne (by omega), up1_ne (by omega)]
theorem addW_old (w : Wv) (a b c d : Int) {i : Nat} (h : i < (w 3).toNat) (x : Nat) (hx : x < 4) : addW w a b c d (16 + x + 4 * i) = w (16 + x + 4 * i) := by
  unfold addW
  rw [up1_ne (by omega), up1_ne (by omega), up1_ne (by omega), up1_ne (by omega), up1_ne (by omega)]
theorem addW_new (w : Wv) (a b c d : Int) : addW w a b c d (16 + 4 * (w 3).toNat) = a ∧ addW w a b c d (17 + 4 * (w 3).toNat) = b ∧ addW w a b c d (18 + 4 * (w 3).toNat) = c ∧ addW w a b c d (19 + 4 * (w 3).toNat) = d := by
  unfold addW
  refine ⟨?_, ?_, ?_, ?_⟩
  · rw [up1_ne (by omega), up1_ne (by omega), up1_ne (by omega), up1_ne (by omega), up1_at]
  · rw [up1_ne (by omega), up1_ne (by omega), up1_ne (by omega), up1_at]
  · rw [up1_ne (by omega), up1_ne (by omega), up1_at]
  · rw [up1_ne (by omega), up1_at]
theorem WF.add {Y : Int} {w : Wv} {a b c d : Int} (h : WF Y w) (h8 : w 3 < 8) (ha : 0 ≤ a ∧ a < w 2) (hb : 0 ≤ b ∧ b ≤ 25) (hc : 0 ≤ c ∧ c ≤ 59) (hd : 0 ≤ d ∧ d ≤ 20) : WF Y (addW w a b c d) := by
  obtain ⟨h0, h1, h2, h3, h4, h5⟩ := h
  unfold WF
  rw [addW_3, addW_lo w a b c d (k := 0) (by omega) (by omega), addW_lo w a b c d (k := 1) (by omega) (by omega), addW_lo w a b c d (k := 2) (by omega) (by omega)]
  refine ⟨h0, h1, h2, by omega, fun t ht => ?_, fun i hi => ?_⟩
  · rw [addW_lo w a b c d (k := 4 + 3 * t) (by omega) (by omega), addW_lo w a b c d (k := 5 + 3 * t) (by omega) (by omega), addW_lo w a b c d (k := 6 + 3 * t) (by omega) (by omega)]
    exact h4 t ht
  · by_cases e : i = (w 3).toNat
    · obtain ⟨q1, q2, q3, q4⟩ := addW_new w a b c d
      rw [e, q1, q2, q3, q4]
      exact ⟨ha, hb, hc, hd⟩
    · have o := fun x hx => addW_old w a b c d (i := i) (by omega) x hx
      have o0 := o 0 (by omega)
      have o1 := o 1 (by omega)
      have o2 := o 2 (by omega)
      have o3 := o 3 (by omega)
      rw [show 16 + 0 + 4 * i = 16 + 4 * i by omega] at o0
      rw [show 16 + 1 + 4 * i = 17 + 4 * i by omega] at o1
      rw [show 16 + 2 + 4 * i = 18 + 4 * i by omega] at o2
      rw [show 16 + 3 + 4 * i = 19 + 4 * i by omega] at o3
      rw [o0, o1, o2, o3]
      exact h5 i (by omega)
theorem addCut6 {σ : Hp} {j : Nat} {w : Wv} {Y : Int} {a b c d : Int} (hR : RelW σ j w) (hw : WF Y w) (h8 : w 3 < 8) : ∃ σ', fX5_addCut σ j a b c d = some (0, σ') ∧ RelW σ' j (addW w a b c d) ∧ ∀ s' j', ¬ (isW s' ∧ j' = j) → σ' s' j' = σ s' j' := by
  have h3 := hw.2.2.2.1
  have h2 := hw.2.2.1
  obtain ⟨a1, a2, a3, a4, a5, a6, a7⟩ := hR
  obtain ⟨N, hN⟩ : ∃ N : Nat, w 3 = N := ⟨(w 3).toNat, by omega⟩
  rw [hN] at a5
  have hN2 : (w 3).toNat = N := by omega
  have w1 : wr ((N : Int) + 1) = (N : Int) + 1 := wr_of (by omega) (by omega)
  have r : ∀ (τ : Hp) (s k : Nat) (v : Int), s ≠ 5 → hup τ s j k v 5 j 11 = τ 5 j 11 := fun τ s k v hs => by rw [hup_s (fun z => hs z.symm)]
  refine ⟨hup (hup (hup (hup (hup σ 16 j N a) 17 j N b) 18 j N c) 19 j N d) 5 j 11 ((N : Int) + 1), ?_, ?_, fun s' j' h => ?_⟩
  · unfold fX5_addCut
    rw [a5, if_neg (by omega), gd_pos (by omega)]
    simp only [sq]
    rw [r _ 16 _ _ (by omega), a5, gd_pos (by omega), Int.toNat_natCast]
    rw [r _ 17 _ _ (by omega), r _ 16 _ _ (by omega), a5, gd_pos (by omega), Int.toNat_natCast]
    rw [r _ 18 _ _ (by omega), r _ 17 _ _ (by omega), r _ 16 _ _ (by omega), a5, gd_pos (by omega), Int.toNat_natCast]
    rw [r _ 19 _ _ (by omega), r _ 18 _ _ (by omega), r _ 17 _ _ (by omega), r _ 16 _ _ (by omega), a5, w1]
  · unfold RelW
    rw [addW_3, addW_lo w a b c d (k := 0) (by omega) (by omega), addW_lo w a b c d (k := 1) (by omega) (by omega), addW_lo w a b c d (k := 2) (by omega) (by omega)]
    simp (disch := omega) only [hup_s, hup_k, hup_at]
    refine ⟨a1, a2, a3, a4, by rw [hN], fun t ht => ?_, fun i hi => ?_⟩
    · rw [addW_lo w a b c d (k := 4 + 3 * t) (by omega) (by omega), addW_lo w a b c d (k := 5 + 3 * t) (by omega) (by omega), addW_lo w a b c d (k := 6 + 3 * t) (by omega) (by omega)]
      exact a6 t ht
    · by_cases e : i = N
      · obtain ⟨q1, q2, q3, q4⟩ := addW_new w a b c d
        rw [hN2] at q1 q2 q3 q4
        rw [e, q1, q2, q3, q4, hup_at, hup_at, hup_at, hup_at]
        exact ⟨rfl, rfl, rfl, rfl⟩
      · have o := fun x hx => addW_old w a b c d (i := i) (by omega) x hx
        have o0 := o 0 (by omega)
        have o1 := o 1 (by omega)
        have o2 := o 2 (by omega)
        have o3 := o 3 (by omega)
        rw [show 16 + 0 + 4 * i = 16 + 4 * i by omega] at o0
        rw [show 16 + 1 + 4 * i = 17 + 4 * i by omega] at o1
        rw [show 16 + 2 + 4 * i = 18 + 4 * i by omega] at o2
        rw [show 16 + 3 + 4 * i = 19 + 4 * i by omega] at o3
        rw [o0, o1, o2, o3]
        simp only [hup_k e]
        exact a7 i (by omega)
  · have hs : ∀ s, isW s → ¬ (s' = s ∧ j' = j) := fun s hs z => h ⟨z.1 ▸ hs, z.2⟩
    rw [hup_row, srow_ne (hs 5 (Or.inl rfl)), hup_row, srow_ne (hs 19 (Or.inr (by omega))), hup_row, srow_ne (hs 18 (Or.inr (by omega))), hup_row, srow_ne (hs 17 (Or.inr (by omega))), hup_row, srow_ne (hs 16 (Or.inr (by omega)))]
theorem ok_cut {σ : Hp} (h : Sim σ) {a b c d : Int} : Ok (fun τ => fX6_cut τ a b c d) (fun τ => fX7_cut_ τ a b c d) σ := by
  obtain ⟨⟨hR, hw⟩, ⟨s1, s2, s3, s4⟩, hSI⟩ := h.2.2.1
  have h3 := hw.2.2.2.1
  have h2 := hw.2.2.1
  by_cases ha : 0 ≤ a ∧ a < σ 27 0 2
  case neg =>
    refine Ok.same (r := -1000001) h ?_ ?_
    · simp only [fX6_cut]; rw [if_pos ((tree6 hR).mpr ha)]
    · simp only [fX7_cut_]; rw [if_pos ((tree7 hw).mpr ha)]
  by_cases hb : 0 ≤ b ∧ b ≤ 25
  case neg =>
    refine Ok.same (r := -1000001) h ?_ ?_
    · simp only [fX6_cut]; rw [if_neg (fun z => (tree6 hR).mp z ha), if_pos (below_0.mpr (by omega))]
    · simp only [fX7_cut_]; rw [if_neg (fun z => (tree7 hw).mp z ha), if_pos (in_0.mpr hb)]
  have hb6 : ¬ fX6_isBelow b 26 = 0 := fun z => below_0.mp z (by omega)
  by_cases hc : 0 ≤ c ∧ c ≤ 59
  case neg =>
    refine Ok.same (r := -1000001) h ?_ ?_
    · simp only [fX6_cut]; rw [if_neg (fun z => (tree6 hR).mp z ha), if_neg hb6, if_pos (below_0.mpr (by omega))]
    · simp only [fX7_cut_]; rw [if_neg (fun z => (tree7 hw).mp z ha), if_neg (in_1 hb), if_pos (in_0.mpr hc)]
  have hc6 : ¬ fX6_isBelow c 60 = 0 := fun z => below_0.mp z (by omega)
  by_cases hd : 1 ≤ d ∧ d ≤ 20
  case neg =>
    refine Ok.same (r := -1000001) h ?_ ?_
    · simp only [fX6_cut]; rw [if_neg (fun z => (tree6 hR).mp z ha), if_neg hb6, if_neg hc6, if_pos (depth6_0.mpr hd)]
    · simp only [fX7_cut_]; rw [if_neg (fun z => (tree7 hw).mp z ha), if_neg (in_1 hb), if_neg (in_1 hc), if_pos (in_0.mpr hd)]
  have hd6 : ¬ fX6_isDepth d = 0 := fun z => depth6_0.mp z hd
  obtain ⟨r, e6, r1, i1⟩ := hasAt6 hR hw a c
  have h7 : ∀ τ : Hp, τ 27 0 = σ 27 0 → fX7_isCutAt τ 27 0 a c = some (r, τ) := fun τ e => by
    obtain ⟨r', e7, r2, i2⟩ := cutAt7 (σ := τ) (s := 27) (j := 0) e (by show 48 ≤ 48; omega) hw a c
    rw [b01 r1 r2 i1 i2]
    exact e7
  rcases r1 with hr | hr
  case inr =>
    refine Ok.same (r := -1000002) h ?_ ?_
    · simp only [fX6_cut]; rw [if_neg (fun z => (tree6 hR).mp z ha), if_neg hb6, if_neg hc6, if_neg hd6, e6, cl_pos, if_neg (by omega)]
    · simp only [fX7_cut_]; rw [if_neg (fun z => (tree7 hw).mp z ha), if_neg (in_1 hb), if_neg (in_1 hc), if_neg (in_1 hd), h7 σ rfl, cl_pos, if_neg (by omega)]
  by_cases h8 : σ 27 0 3 = 8
  · refine Ok.same (r := -1000003) h ?_ ?_
    · simp only [fX6_cut]; rw [if_neg (fun z => (tree6 hR).mp z ha), if_neg hb6, if_neg hc6, if_neg hd6, e6, cl_pos, if_pos hr, if_neg (by rw [hR.2.2.2.2.1]; omega)]
    · simp only [fX7_cut_]; rw [if_neg (fun z => (tree7 hw).mp z ha), if_neg (in_1 hb), if_neg (in_1 hc), if_neg (in_1 hd), h7 σ rfl, cl_pos, if_pos hr, if_pos h8]
  obtain ⟨n, hn⟩ : ∃ n : Nat, σ 7 0 16 = n := ⟨(σ 7 0 16).toNat, by omega⟩
  obtain ⟨x, hx⟩ : ∃ x : Nat, σ 1 0 1 = x := ⟨(σ 1 0 1).toNat, by omega⟩
  obtain ⟨N, hN⟩ : ∃ N : Nat, σ 27 0 3 = N := ⟨(σ 27 0 3).toNat, by omega⟩
  obtain ⟨σ1, ek, o1, R1, c2, c1⟩ := keep_sp (σ := σ) (n := n) (x := x) (by omega) (by omega) hx (by omega) hR hw
  have nW : ∀ s, (s = 1 ∨ s = 7 ∨ s = 27 ∨ s = 29) → ¬ isW s := fun s hs z => by rcases z with q | q <;> omega
  have R0 : RelW σ1 0 (σ 27 0) := hR.cg (fun s hs => o1 s 0 (fun z => by omega) (by rcases hs with q | q <;> omega))
  obtain ⟨σ2, ea, R2, o2⟩ := addCut6 (a := a) (b := b) (c := c) (d := d) R0 hw (by omega)
  have b27 : σ2 27 0 = σ 27 0 := by rw [o2 27 0 (fun z => nW 27 (by omega) z.1), o1 27 0 (fun z => nW 27 (by omega) z.1) (by omega)]
  have b29 : σ2 29 0 = σ 29 0 := by rw [o2 29 0 (fun z => nW 29 (by omega) z.1), o1 29 0 (fun z => nW 29 (by omega) z.1) (by omega)]
  have b7 : σ2 7 0 16 = (n : Int) := by rw [o2 7 0 (fun z => nW 7 (by omega) z.1), o1 7 0 (fun z => nW 7 (by omega) z.1) (by omega), hn]
  have en := notes_sp (σ := σ2) (n := n) (by omega) b7
  rw [b27, b29] at en
  obtain ⟨τ, hτ⟩ : ∃ τ, τ = hup (srow σ2 29 0 (pastN n (σ 29 0) (σ 27 0))) 7 0 16 ((if n = 24 then 24 else n + 1 : Nat) : Int) := ⟨_, rfl⟩
  rw [← hτ] at en
  have d27 : τ 27 0 = σ 27 0 := by rw [hτ, hup_s (by omega), srow_ne (by omega), b27]
  have w3 : wr ((N : Int) + 1) = ((N + 1 : Nat) : Int) := by rw [wr_of (by omega) (by omega)]; omega
  have w3' : wr (((N + 1 : Nat) : Int) - 1) = (N : Int) := by rw [wr_of (by omega) (by omega)]; omega
  have eN := wr16c (c := N) (by omega)
  have eN1 : wr (((16 + 4 * N : Nat) : Int) + 1) = ((17 + 4 * N : Nat) : Int) := by rw [wr_of (by omega) (by omega)]; omega
  have eN2 : wr (((16 + 4 * N : Nat) : Int) + 2) = ((18 + 4 * N : Nat) : Int) := by rw [wr_of (by omega) (by omega)]; omega
  have eN3 : wr (((16 + 4 * N : Nat) : Int) + 3) = ((19 + 4 * N : Nat) : Int) := by rw [wr_of (by omega) (by omega)]; omega
  have hadd : addW (σ 27 0) a b c d = up1 (up1 (up1 (up1 (up1 (σ 27 0) (16 + 4 * N) a) (17 + 4 * N) b) (18 + 4 * N) c) (19 + 4 * N) d) 3 ((N + 1 : Nat) : Int) := by
    unfold addW
    rw [hN, Int.toNat_natCast, show (N : Int) + 1 = ((N + 1 : Nat) : Int) by omega]
  refine ⟨N, σ2, srow τ 27 0 (addW (σ 27 0) a b c d), ?_, ?_, ?_⟩
  · simp only [fX6_cut]
    have e11 : σ2 5 0 11 = ((N + 1 : Nat) : Int) := by rw [R2.2.2.2.2.1, addW_3, hN]; omega
    rw [if_neg (fun z => (tree6 hR).mp z ha), if_neg hb6, if_neg hc6, if_neg hd6, e6, cl_pos, if_pos hr, if_pos (by rw [hR.2.2.2.2.1]; omega), ek, cl_pos, ea, cl_pos, e11, w3']
  · simp only [fX7_cut_]
    rw [if_neg (fun z => (tree7 (σ := σ2) (by rw [b27]; exact hw)).mp z (by rw [b27]; exact ha)), if_neg (in_1 hb), if_neg (in_1 hc), if_neg (in_1 hd), h7 σ2 b27, cl_pos, if_pos hr, b27, if_neg h8, en, cl_pos, d27, hN, eN, eN1, eN2, eN3, gd_pos (by omega)]
    simp only [sq]
    rw [gd_pos (by omega), gd_pos (by omega), gd_pos (by omega)]
    simp only [Int.toNat_natCast]
    rw [hup_row τ, hup_srow, hup_srow, hup_srow, srow_at, d27]
    have e3 : up1 (up1 (up1 (up1 (σ 27 0) (16 + 4 * N) a) (17 + 4 * N) b) (18 + 4 * N) c) (19 + 4 * N) d 3 = (N : Int) := by
      rw [up1_ne (by omega), up1_ne (by omega), up1_ne (by omega), up1_ne (by omega), hN]
    rw [e3, w3, hup_srow, srow_at, up1_at, w3', ← hadd]
  · exact h.change hn hx o1 R1 c2 c1 o2 R2 (hw.add (by omega) ha hb hc (by omega)) (by rw [hτ])
/-! scrape -/
def remW (w : Wv) (c : Nat) (b : Nat) : Wv := fun k => if 16 + 4 * c ≤ k ∧ k < b then (if 48 ≤ k + 4 then 0 else w (k + 4)) else w k
theorem remW_step {w : Wv} {c b : Nat} (h1 : 16 + 4 * c ≤ b) (h2 : b < 48) : up1 (remW w c b) b (if 48 ≤ b + 4 then 0 else w (b + 4)) = remW w c (b + 1) := by
  funext k
  unfold up1 remW
  by_cases e : k = b
  · rw [if_pos e, e, if_pos (show 16 + 4 * c ≤ b ∧ b < b + 1 by omega)]
  · rw [if_neg e]
    by_cases q : 16 + 4 * c ≤ k ∧ k < b
    · rw [if_pos q, if_pos (show 16 + 4 * c ≤ k ∧ k < b + 1 by omega)]
    · rw [if_neg q, if_neg (show ¬ (16 + 4 * c ≤ k ∧ k < b + 1) by omega)]
def remS (w : Wv) (c : Nat) : Wv := up1 (remW w c 48) 3 (w 3 - 1)
theorem remS_3 (w : Wv) (c : Nat) : remS w c 3 = w 3 - 1 := up1_at _ _ _
theorem remS_lo (w : Wv) (c : Nat) {k : Nat} (h3 : k ≠ 3) (h : k < 16 + 4 * c) : remS w c k = w k := by
  unfold remS
  rw [up1_ne h3]
  exact if_neg (by omega)
theorem remS_hi (w : Wv) (c : Nat) {k : Nat} (h : 16 + 4 * c ≤ k) (h2 : k + 4 < 48) : remS w c k = w (k + 4) := by
  unfold remS
  rw [up1_ne (by omega)]
  unfold remW
  rw [if_pos (by omega), if_neg (by omega)]
theorem WF.rem {Y : Int} {w : Wv} {c : Nat} (h : WF Y w) (hc : (c : Int) < w 3) : WF Y (remS w c) := by
  obtain ⟨h0, h1, h2, h3, h4, h5⟩ := h
  unfold WF
  rw [remS_3, remS_lo w c (k := 0) (by omega) (by omega), remS_lo w c (k := 1) (by omega) (by omega), remS_lo w c (k := 2) (by omega) (by omega)]
  refine ⟨h0, h1, h2, by omega, fun t ht => ?_, fun i hi => ?_⟩
  · rw [remS_lo w c (k := 4 + 3 * t) (by omega) (by omega), remS_lo w c (k := 5 + 3 * t) (by omega) (by omega), remS_lo w c (k := 6 + 3 * t) (by omega) (by omega)]
    exact h4 t ht
  · by_cases e : i < c
    · rw [remS_lo w c (k := 16 + 4 * i) (by omega) (by omega), remS_lo w c (k := 17 + 4 * i) (by omega) (by omega), remS_lo w c (k := 18 + 4 * i) (by omega) (by omega), remS_lo w c (k := 19 + 4 * i) (by omega) (by omega)]
      exact h5 i (by omega)
    · rw [remS_hi w c (k := 16 + 4 * i) (by omega) (by omega), remS_hi w c (k := 17 + 4 * i) (by omega) (by omega), remS_hi w c (k := 18 + 4 * i) (by omega) (by omega), remS_hi w c (k := 19 + 4 * i) (by omega) (by omega)]
      exact h5 (i + 1) (by omega)
/-- the class: cuts below b are moved already -/
def remI (σ : Hp) (w : Wv) (c b : Nat) : Prop := σ 5 0 7 = (if 0 < w 0 then 1 else 0) ∧ σ 5 0 8 = w 0 ∧ σ 5 0 9 = w 1 ∧ σ 5 0 10 = w 2 ∧ σ 5 0 11 = w 3 ∧
  (∀ t : Nat, (t : Int) < w 2 → σ 13 0 t = w (4 + 3 * t) ∧ σ 14 0 t = w (5 + 3 * t) ∧ σ 15 0 t = w (6 + 3 * t)) ∧
  (∀ i : Nat, (i : Int) < w 3 → (i < c ∨ b ≤ i) → σ 16 0 i = w (16 + 4 * i) ∧ σ 17 0 i = w (17 + 4 * i) ∧ σ 18 0 i = w (18 + 4 * i) ∧ σ 19 0 i = w (19 + 4 * i)) ∧
  (∀ i : Nat, (i : Int) + 1 < w 3 → c ≤ i → i < b → σ 16 0 i = w (20 + 4 * i) ∧ σ 17 0 i = w (21 + 4 * i) ∧ σ 18 0 i = w (22 + 4 * i) ∧ σ 19 0 i = w (23 + 4 * i))
theorem rem6_l {w : Wv} {Y : Int} {c : Nat} (hw : WF Y w) (hc : (c : Int) < w 3) : ∀ (d b n : Nat) (σ : Hp), (b : Int) + d + 1 = w 3 → c ≤ b → d + 1 ≤ n → remI σ w c b →
    ∃ σ', lX5_removeCut_2 n σ 0 b = some (0, σ') ∧ RelW σ' 0 (remS w c) ∧ ∀ s' j', ¬ (isW s' ∧ j' = 0) → σ' s' j' = σ s' j' := by
  have h3 := hw.2.2.2.1
  have h2 := hw.2.2.1
  intro d
  induction d with
  | zero =>
    intro b n σ hb hcb hn hI
    obtain ⟨n, rfl⟩ : ∃ m, n = m + 1 := ⟨n - 1, by omega⟩
    obtain ⟨a1, a2, a3, a4, a5, a6, a7, a8⟩ := hI
    refine ⟨hup σ 5 0 11 (w 3 - 1), ?_, ?_, fun s' j' h => ?_⟩
    · rw [lX5_removeCut_2_e0, a5, wr_of (by omega) (by omega), if_pos (by omega)]
      rfl
    · unfold RelW
      rw [remS_3, remS_lo w c (k := 0) (by omega) (by omega), remS_lo w c (k := 1) (by omega) (by omega), remS_lo w c (k := 2) (by omega) (by omega)]
      simp (disch := omega) only [hup_s, hup_k, hup_at]
      refine ⟨a1, a2, a3, a4, trivial, fun t ht => ?_, fun i hi => ?_⟩
      · rw [remS_lo w c (k := 4 + 3 * t) (by omega) (by omega), remS_lo w c (k := 5 + 3 * t) (by omega) (by omega), remS_lo w c (k := 6 + 3 * t) (by omega) (by omega)]
        exact a6 t ht
      · by_cases e : i < c
        · rw [remS_lo w c (k := 16 + 4 * i) (by omega) (by omega), remS_lo w c (k := 17 + 4 * i) (by omega) (by omega), remS_lo w c (k := 18 + 4 * i) (by omega) (by omega), remS_lo w c (k := 19 + 4 * i) (by omega) (by omega)]
          exact a7 i (by omega) (Or.inl e)
        · rw [remS_hi w c (k := 16 + 4 * i) (by omega) (by omega), remS_hi w c (k := 17 + 4 * i) (by omega) (by omega), remS_hi w c (k := 18 + 4 * i) (by omega) (by omega), remS_hi w c (k := 19 + 4 * i) (by omega) (by omega), show 16 + 4 * i + 4 = 20 + 4 * i by omega, show 17 + 4 * i + 4 = 21 + 4 * i by omega, show 18 + 4 * i + 4 = 22 + 4 * i by omega, show 19 + 4 * i + 4 = 23 + 4 * i by omega]
          exact a8 i (by omega) (by omega) (by omega)
    · rw [hup_row, srow_ne (fun z => h ⟨by rw [z.1]; exact Or.inl rfl, z.2⟩)]
  | succ d ih =>
    intro b n σ hb hcb hn hI
    obtain ⟨n, rfl⟩ : ∃ m, n = m + 1 := ⟨n - 1, by omega⟩
    obtain ⟨a1, a2, a3, a4, a5, a6, a7, a8⟩ := hI
    have e5 : wr ((b : Int) + 1) = ((b + 1 : Nat) : Int) := by rw [wr_of (by omega) (by omega)]; omega
    obtain ⟨v1, v2, v3, v4⟩ := a7 (b + 1) (by omega) (Or.inr (by omega))
    obtain ⟨σ1, hσ1⟩ : ∃ σ1, σ1 = hup (hup (hup (hup σ 16 0 b (w (20 + 4 * b))) 17 0 b (w (21 + 4 * b))) 18 0 b (w (22 + 4 * b))) 19 0 b (w (23 + 4 * b)) := ⟨_, rfl⟩
    have off : ∀ s' j', ¬ (isW s' ∧ j' = 0) → σ1 s' j' = σ s' j' := fun s' j' h => by
      have hs : ∀ s, isW s → ¬ (s' = s ∧ j' = 0) := fun s hs z => h ⟨z.1 ▸ hs, z.2⟩
      rw [hσ1, hup_row, srow_ne (hs 19 (Or.inr (by omega))), hup_row, srow_ne (hs 18 (Or.inr (by omega))), hup_row, srow_ne (hs 17 (Or.inr (by omega))), hup_row, srow_ne (hs 16 (Or.inr (by omega)))]
    obtain ⟨σ', e', R', o'⟩ := ih (b + 1) n σ1 (by omega) (by omega) (by omega) (by
      rw [hσ1]
      unfold remI
      simp (disch := omega) only [hup_s, hup_k]
      refine ⟨a1, a2, a3, a4, a5, a6, fun i hi hib => ?_, fun i hi hci hib => ?_⟩
      · have e : i ≠ b := by omega
        simp only [hup_k e]
        exact a7 i hi (by omega)
      · by_cases e : i = b
        · subst e
          rw [hup_at, hup_at, hup_at, hup_at]
          exact ⟨rfl, rfl, rfl, rfl⟩
        · simp only [hup_k e]
          exact a8 i hi hci (by omega))
    refine ⟨σ', ?_, R', fun s' j' h => (o' s' j' h).trans (off s' j' h)⟩
    rw [lX5_removeCut_2_e0, a5, wr_of (x := w 3 - 1) (by omega) (by omega), if_neg (by omega), e5, gd_pos (by omega), gd_pos (by omega)]
    simp only [sq]
    rw [gd_pos (by omega), gd_pos (by omega), gd_pos (by omega), gd_pos (by omega), gd_pos (by omega), gd_pos (by omega)]
    simp only [Int.toNat_natCast]
    rw [v1]
    rw [show hup σ 16 0 b (w (16 + 4 * (b + 1))) 17 0 (b + 1) = w (21 + 4 * b) from by rw [hup_s (by omega), v2, show 17 + 4 * (b + 1) = 21 + 4 * b by omega]]
    rw [show hup (hup σ 16 0 b (w (16 + 4 * (b + 1)))) 17 0 b (w (21 + 4 * b)) 18 0 (b + 1) = w (22 + 4 * b) from by rw [hup_s (by omega), hup_s (by omega), v3, show 18 + 4 * (b + 1) = 22 + 4 * b by omega]]
    rw [show hup (hup (hup σ 16 0 b (w (16 + 4 * (b + 1)))) 17 0 b (w (21 + 4 * b))) 18 0 b (w (22 + 4 * b)) 19 0 (b + 1) = w (23 + 4 * b) from by rw [hup_s (by omega), hup_s (by omega), hup_s (by omega), v4, show 19 + 4 * (b + 1) = 23 + 4 * b by omega]]
    rw [show 16 + 4 * (b + 1) = 20 + 4 * b by omega, ← hσ1]
    exact e'
theorem scr7_l {w : Wv} {Y : Int} {c : Nat} (hw : WF Y w) (hc : (c : Int) < w 3) : ∀ (d b n : Nat) (τ : Hp), b + d = 48 → 16 + 4 * c ≤ b → d + 1 ≤ n →
    lX7_scrape_22 n (srow τ 27 0 (remW w c b)) b = some (w 3 - 1, srow τ 27 0 (remS w c)) := by
  have h3 := hw.2.2.2.1
  intro d
  induction d with
  | zero =>
    intro b n τ hb hcb hn
    obtain ⟨n, rfl⟩ : ∃ m, n = m + 1 := ⟨n - 1, by omega⟩
    obtain rfl : b = 48 := by omega
    have e3 : remW w c 48 3 = w 3 := if_neg (by omega)
    rw [lX7_scrape_22_e0, if_pos (by omega)]
    simp only [sq]
    rw [srow_at, e3, wr_of (by omega) (by omega), hup_srow, srow_at, up1_at]
    rfl
  | succ d ih =>
    intro b n τ hb hcb hn
    obtain ⟨n, rfl⟩ : ∃ m, n = m + 1 := ⟨n - 1, by omega⟩
    have e5 : wr ((b : Int) + 1) = ((b + 1 : Nat) : Int) := by rw [wr_of (by omega) (by omega)]; omega
    have e4 : wr ((b : Int) + 4) = ((b + 4 : Nat) : Int) := by rw [wr_of (by omega) (by omega)]; omega
    have hs := remW_step (w := w) hcb (show b < 48 by omega)
    rw [lX7_scrape_22_e0, if_neg (by omega), e4, e5]
    by_cases q : 48 ≤ b + 4
    · rw [if_pos q] at hs
      rw [if_pos (by omega), gd_pos (by omega), Int.toNat_natCast]
      simp only [sq]
      rw [hup_srow, hs]
      exact ih (b + 1) n τ (by omega) (by omega) (by omega)
    · rw [if_neg q] at hs
      have e : remW w c b (b + 4) = w (b + 4) := if_neg (by omega)
      rw [if_neg (by omega), gd_pos (by omega), gd_pos (by omega), Int.toNat_natCast, Int.toNat_natCast]
      simp only [sq]
      rw [srow_at, e, hup_srow, hs]
      exact ih (b + 1) n τ (by omega) (by omega) (by omega)
theorem ok_scrape {σ : Hp} (h : Sim σ) {a : Int} : Ok (fun τ => fX6_scrape τ a) (fun τ => fX7_scrape τ a) σ := by
  obtain ⟨⟨hR, hw⟩, ⟨s1, s2, s3, s4⟩, hSI⟩ := h.2.2.1
  have h3 := hw.2.2.2.1
  by_cases ha : 0 ≤ a ∧ a < σ 27 0 3
  case neg =>
    refine Ok.same (r := -1000001) h ?_ ?_
    · simp only [fX6_scrape]; rw [if_pos ((cut6 hR).mpr ha)]
    · simp only [fX7_scrape]; rw [if_pos ((cut7_0 hw).mpr ha)]
  obtain ⟨c, rfl⟩ : ∃ k : Nat, a = k := ⟨a.toNat, by omega⟩
  obtain ⟨n, hn⟩ : ∃ n : Nat, σ 7 0 16 = n := ⟨(σ 7 0 16).toNat, by omega⟩
  obtain ⟨x, hx⟩ : ∃ x : Nat, σ 1 0 1 = x := ⟨(σ 1 0 1).toNat, by omega⟩
  obtain ⟨σ1, ek, o1, R1, c2, c1⟩ := keep_sp (σ := σ) (n := n) (x := x) (by omega) (by omega) hx (by omega) hR hw
  have nW : ∀ s, (s = 1 ∨ s = 7 ∨ s = 27 ∨ s = 29) → ¬ isW s := fun s hs z => by rcases z with q | q <;> omega
  have R0 : RelW σ1 0 (σ 27 0) := hR.cg (fun s hs => o1 s 0 (fun z => by omega) (by rcases hs with q | q <;> omega))
  obtain ⟨σ2, er, R2, o2⟩ := rem6_l hw ha.2 (σ 27 0 3 - 1 - c).toNat c FU σ1 (by omega) (Nat.le_refl _) (by rw [FU_eq]; omega) (by
    obtain ⟨a1, a2, a3, a4, a5, a6, a7⟩ := R0
    exact ⟨a1, a2, a3, a4, a5, a6, fun i hi _ => a7 i hi, fun i _ h1 h2 => by omega⟩)
  have er' : fX5_removeCut σ1 0 c = some (0, σ2) := er
  have b27 : σ2 27 0 = σ 27 0 := by rw [o2 27 0 (fun z => nW 27 (by omega) z.1), o1 27 0 (fun z => nW 27 (by omega) z.1) (by omega)]
  have b29 : σ2 29 0 = σ 29 0 := by rw [o2 29 0 (fun z => nW 29 (by omega) z.1), o1 29 0 (fun z => nW 29 (by omega) z.1) (by omega)]
  have b7 : σ2 7 0 16 = (n : Int) := by rw [o2 7 0 (fun z => nW 7 (by omega) z.1), o1 7 0 (fun z => nW 7 (by omega) z.1) (by omega), hn]
  have en := notes_sp (σ := σ2) (n := n) (by omega) b7
  rw [b27, b29] at en
  obtain ⟨τ, hτ⟩ : ∃ τ, τ = hup (srow σ2 29 0 (pastN n (σ 29 0) (σ 27 0))) 7 0 16 ((if n = 24 then 24 else n + 1 : Nat) : Int) := ⟨_, rfl⟩
  rw [← hτ] at en
  have d27 : τ 27 0 = σ 27 0 := by rw [hτ, hup_s (by omega), srow_ne (by omega), b27]
  have es := scr7_l hw ha.2 (32 - 4 * c) (16 + 4 * c) FU τ (by omega) (Nat.le_refl _) (by rw [FU_eq]; omega)
  have e0 : remW (σ 27 0) c (16 + 4 * c) = τ 27 0 := by
    rw [d27]
    funext k
    exact if_neg (by omega)
  rw [e0, srow_self] at es
  refine ⟨σ 27 0 3 - 1, σ2, srow τ 27 0 (remS (σ 27 0) c), ?_, ?_, ?_⟩
  · simp only [fX6_scrape]
    rw [if_neg (fun z => (cut6 hR).mp z ha), ek, cl_pos, er', cl_pos, R2.2.2.2.2.1, remS_3]
  · simp only [fX7_scrape]
    rw [if_neg (fun z => (cut7_0 (σ := σ2) (by rw [b27]; exact hw)).mp z (by rw [b27]; exact ha)), en, cl_pos, wr16c (by omega), es]
  · exact h.change hn hx o1 R1 c2 c1 o2 R2 (hw.rem ha.2) (by rw [hτ])
