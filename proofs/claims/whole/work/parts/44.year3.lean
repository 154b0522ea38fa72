/-! the class' YEAR -/
theorem RelW_depth {σ : Hp} {j c : Nat} {w : Wv} {v : Int} {Y : Int} (hw : WF Y w) (h : RelW σ j w) : RelW (hup σ 19 j c v) j (up1 w (19 + 4 * c) v) := by
  obtain ⟨a1, a2, a3, a4, a5, a6, a7⟩ := h
  have hw2 := hw.2.2.1
  unfold RelW
  rw [hup_s (s' := 5) (by omega), hup_s (s' := 13) (by omega), hup_s (s' := 14) (by omega), hup_s (s' := 15) (by omega), hup_s (s' := 16) (by omega), hup_s (s' := 17) (by omega), hup_s (s' := 18) (by omega)]
  rw [up1_ne (x := 0) (by omega), up1_ne (x := 1) (by omega), up1_ne (x := 2) (by omega), up1_ne (x := 3) (by omega)]
  refine ⟨a1, a2, a3, a4, a5, fun t ht => ?_, fun c' hc' => ?_⟩
  · rw [up1_ne (by omega), up1_ne (by omega), up1_ne (by omega)]
    exact a6 t ht
  · rw [up1_ne (by omega), up1_ne (by omega), up1_ne (by omega)]
    obtain ⟨b1, b2, b3, b4⟩ := a7 c' hc'
    refine ⟨b1, b2, b3, ?_⟩
    by_cases e : c' = c
    · subst e
      rw [hup_at, up1_at]
    · rw [hup_k e, up1_ne (by omega)]
      exact b4
theorem RelW_girth {σ : Hp} {j t : Nat} {w : Wv} {v : Int} {Y : Int} (hw : WF Y w) (ht4 : t < 4) (h : RelW σ j w) : RelW (hup σ 14 j t v) j (up1 w (5 + 3 * t) v) := by
  obtain ⟨a1, a2, a3, a4, a5, a6, a7⟩ := h
  have hw2 := hw.2.2.1
  unfold RelW
  rw [hup_s (s' := 5) (by omega), hup_s (s' := 13) (by omega), hup_s (s' := 15) (by omega), hup_s (s' := 16) (by omega), hup_s (s' := 17) (by omega), hup_s (s' := 18) (by omega), hup_s (s' := 19) (by omega)]
  rw [up1_ne (x := 0) (by omega), up1_ne (x := 1) (by omega), up1_ne (x := 2) (by omega), up1_ne (x := 3) (by omega)]
  refine ⟨a1, a2, a3, a4, a5, fun t' ht' => ?_, fun c' hc' => ?_⟩
  · rw [up1_ne (x := 4 + 3 * t') (by omega), up1_ne (x := 6 + 3 * t') (by omega)]
    obtain ⟨b1, b2, b3⟩ := a6 t' ht'
    refine ⟨b1, ?_, b3⟩
    by_cases e : t' = t
    · subst e
      rw [hup_at, up1_at]
    · rw [hup_k e, up1_ne (by omega)]
      exact b2
  · rw [up1_ne (by omega), up1_ne (by omega), up1_ne (by omega), up1_ne (by omega)]
    exact a7 c' hc'
theorem RelW_year {σ : Hp} {j : Nat} {w : Wv} {v : Int} (h : RelW σ j w) : RelW (hup σ 5 j 9 v) j (up1 w 1 v) := by
  obtain ⟨a1, a2, a3, a4, a5, a6, a7⟩ := h
  unfold RelW
  rw [hup_s (s' := 13) (by omega), hup_s (s' := 14) (by omega), hup_s (s' := 15) (by omega), hup_s (s' := 16) (by omega), hup_s (s' := 17) (by omega), hup_s (s' := 18) (by omega), hup_s (s' := 19) (by omega)]
  rw [up1_ne (x := 0) (by omega), up1_at, up1_ne (x := 2) (by omega), up1_ne (x := 3) (by omega), hup_at, hup_k (by omega), hup_k (by omega), hup_k (by omega), hup_k (by omega)]
  refine ⟨a1, a2, rfl, a4, a5, fun t ht => ?_, fun c hc => ?_⟩
  · rw [up1_ne (by omega), up1_ne (by omega), up1_ne (by omega)]
    exact a6 t ht
  · rw [up1_ne (by omega), up1_ne (by omega), up1_ne (by omega), up1_ne (by omega)]
    exact a7 c hc
theorem growth5 {σ : Hp} {j t : Nat} (ht : t < 4) (h1 : 0 ≤ σ 15 j t ∧ σ 15 j t ≤ 9) (h2 : 0 ≤ σ 14 j t ∧ σ 14 j t ≤ 999) (h3 : 0 ≤ σ 5 j 9 ∧ σ 5 j 9 < 100000) : fX5_growth σ j t = some (growS (σ 13 j t) (σ 15 j t) (σ 14 j t) (σ 5 j 9), σ) := by
  have e0 : fX5_growthByKind σ j t = some (ruledS (σ 13 j t) (σ 15 j t) (σ 5 j 9), σ) := by
    unfold fX5_growthByKind ruledS
    rw [gd_pos (by omega), gd_pos (by omega), Int.toNat_natCast]
    have e1 : qdiv (σ 15 j t) 3 = σ 15 j t / 3 := qdiv_of h1.1 (by omega) (by omega)
    have e2 : qrem (σ 5 j 9) 2 = σ 5 j 9 % 2 := qrem_of h3.1 (by omega) (by omega)
    have e3 : wr (1 + σ 15 j t / 3) = 1 + σ 15 j t / 3 := wr_of (by omega) (by omega)
    have e4 : wr (1 + σ 15 j t / 3 + 2) = 3 + σ 15 j t / 3 := by rw [wr_of (by omega) (by omega)]; omega
    have e5 : qdiv (1 + σ 15 j t / 3) 2 = (1 + σ 15 j t / 3) / 2 := qdiv_of (by omega) (by omega) (by omega)
    rw [e1, e2, e3, e4, e5]
    repeat' split
    all_goals rfl
  have h := ruledS_in (k := σ 13 j t) (y := σ 5 j 9) h1.1 h1.2
  unfold fX5_growth
  rw [e0, cl_pos, gd_pos (by omega), Int.toNat_natCast, wr_of (by omega) (by omega)]
  congr 2
  unfold qmin growS
  repeat' split
  all_goals omega
theorem closes5 {σ : Hp} {j : Nat} {g k : Int} (h3 : 0 ≤ σ 5 j 9 ∧ σ 5 j 9 < 100000) : fX5_closesBy σ j g k = healS k g (σ 5 j 9) := by
  unfold fX5_closesBy healS
  rw [qrem_of h3.1 (by omega) (by omega)]
  repeat' split
  all_goals first | rfl | omega
theorem close5 {j t : Nat} {w : Wv} {Y a : Int} (hw : WF Y w) (ha : a ≤ w 2) (hh : healW w t ≠ 0) : ∀ (d c n : Nat) (σ : Hp), (c : Int) + d = w 3 → d + 1 ≤ n → RelW σ j (stepG a t c w) →
    ∃ σ', lX5_closeCutsOf_2 n σ j t c = some (0, σ') ∧ RelW σ' j (stepG a t (w 3) w) ∧ ∀ s' j', ¬ (s' = 19 ∧ j' = j) → σ' s' j' = σ s' j' := by
  have hw3 := hw.2.2.2.1
  intro d
  induction d with
  | zero =>
    intro c n σ hc hn hR
    obtain ⟨n, rfl⟩ : ∃ m, n = m + 1 := ⟨n - 1, by omega⟩
    have e3 := hR.2.2.2.2.1
    rw [stepG_low _ _ _ _ (by omega)] at e3
    refine ⟨σ, ?_, ?_, fun _ _ _ => rfl⟩
    · rw [lX5_closeCutsOf_2_e0, if_pos (by omega)]
    · have e : (c : Int) = w 3 := by omega
      rw [← e]
      exact hR
  | succ d ih =>
    intro c n σ hc hn hR
    obtain ⟨n, rfl⟩ : ∃ m, n = m + 1 := ⟨n - 1, by omega⟩
    have e3 := hR.2.2.2.2.1
    rw [stepG_low _ _ _ _ (by omega)] at e3
    have hcl : (c : Int) < w 3 := by omega
    have hc7 := hR.2.2.2.2.2.2 c (by rw [stepG_low _ _ _ _ (by omega)]; exact hcl)
    have e16 := stepG_cut a t c w c 0 (by omega)
    rw [Nat.add_zero] at e16
    have e19 := stepG_depth a t c w c
    rw [e16] at hc7
    have e5 : wr ((c : Int) + 1) = ((c + 1 : Nat) : Int) := by rw [wr_of (by omega) (by omega)]; omega
    have hd := (hw.2.2.2.2.2 c hcl).2.2.2
    rw [lX5_closeCutsOf_2_e0, if_neg (by omega), gd_pos (by omega), Int.toNat_natCast, hc7.1, e5]
    have next : ∀ σ1 : Hp, (∀ s' j', ¬ (s' = 19 ∧ j' = j) → σ1 s' j' = σ s' j') → RelW σ1 j (stepG a t (c + 1) w) → ∃ σ', lX5_closeCutsOf_2 n σ1 j t ((c + 1 : Nat) : Int) = some (0, σ') ∧ RelW σ' j (stepG a t (w 3) w) ∧ ∀ s' j', ¬ (s' = 19 ∧ j' = j) → σ' s' j' = σ s' j' := by
      intro σ1 h1 h2
      obtain ⟨σ', q1, q2, q3⟩ := ih (c + 1) n σ1 (by omega) (by omega) h2
      exact ⟨σ', q1, q2, fun s' j' h => (q3 s' j' h).trans (h1 s' j' h)⟩
    by_cases hT : w (16 + 4 * c) = t
    · rw [if_neg (fun z => by omega)] at e19
      rw [if_pos hT, gd_pos (by omega), hc7.2.2.2, e19]
      by_cases hd0 : w (19 + 4 * c) ≤ 0
      · rw [if_pos hd0]
        refine next σ (fun _ _ _ => rfl) ?_
        rw [← stepG_skip _ _ (fun z => by omega)]
        exact hR
      · rw [if_neg hd0, gd_pos (by omega), gd_pos (by omega)]
        simp only [sq]
        rw [wr_of (by omega) (by omega)]
        refine next _ (fun s' j' h => ?_) ?_
        · rw [hup_row, srow_ne h]
        · rw [← stepG_upd a t hcl hT (by simpa using hh) (by omega)]
          exact RelW_depth (stepG_WF hw a t c ha) hR
    · rw [if_neg hT]
      refine next σ (fun _ _ _ => rfl) ?_
      rw [← stepG_skip _ _ (fun z => hT z.1)]
      exact hR
theorem year5 {j : Nat} {w : Wv} {Y : Int} (hw : WF Y w) (hY : Y < 99999) : ∀ (d t n : Nat) (σ : Hp), (t : Int) + d = w 2 → d + 1 ≤ n → RelW σ j (stepG t t 0 w) →
    ∃ σ', lX5_passYear_2 n σ j t = some (0, σ') ∧ RelW σ' j (stepW w) ∧ ∀ s' j', ¬ (isW s' ∧ j' = j) → σ' s' j' = σ s' j' := by
  have hw1 := hw.2.1
  have hw2 := hw.2.2.1
  have hw3 := hw.2.2.2.1
  intro d
  induction d with
  | zero =>
    intro t n σ ht hn hR
    obtain ⟨n, rfl⟩ : ∃ m, n = m + 1 := ⟨n - 1, by omega⟩
    have e2 := hR.2.2.2.1
    have e1 := hR.2.2.1
    rw [stepG_low _ _ _ _ (by omega)] at e2 e1
    rw [lX5_passYear_2_e0, if_pos (by omega)]
    simp only [sq]
    refine ⟨_, rfl, ?_, fun s' j' h => ?_⟩
    · rw [e1, wr_of (by omega) (by omega), ← stepW_end]
      have e : (t : Int) = w 2 := by omega
      rw [← e]
      exact RelW_year hR
    · rw [hup_row, srow_ne (fun z => h ⟨Or.inl z.1, z.2⟩)]
  | succ d ih =>
    intro t n σ ht hn hR
    obtain ⟨n, rfl⟩ : ∃ m, n = m + 1 := ⟨n - 1, by omega⟩
    have hlt : (t : Int) < w 2 := by omega
    have e2 := hR.2.2.2.1
    have e1 := hR.2.2.1
    rw [stepG_low _ _ _ _ (by omega)] at e2 e1
    obtain ⟨g1, g2, g3⟩ := hR.2.2.2.2.2.1 t (by rw [stepG_low _ _ _ _ (by omega)]; exact hlt)
    rw [stepG_kind _ _ _ _ (by omega)] at g1
    rw [stepG_girth _ _ _ _ (by omega), if_neg (by omega)] at g2
    rw [stepG_sun _ _ _ _ (by omega)] at g3
    obtain ⟨b1, b2, b3⟩ := hw.2.2.2.2.1 t hlt
    have hg := grewW_in hw hlt
    have e5 : wr ((t : Int) + 1) = ((t + 1 : Nat) : Int) := by rw [wr_of (by omega) (by omega)]; omega
    have hgw : growS (σ 13 j t) (σ 15 j t) (σ 14 j t) (σ 5 j 9) = grewW w t := by rw [g1, g2, g3, e1]; rfl
    rw [lX5_passYear_2_e0, if_neg (by omega), growth5 (by omega) (by omega) (by omega) (by omega), cl_pos, hgw, gd_pos (by omega), gd_pos (by omega)]
    simp only [sq]
    rw [gd_pos (by omega), Int.toNat_natCast, g2, wr_of (x := w (5 + 3 * t) + grewW w t) (by omega) (by omega), e5]
    have hR2 : RelW (hup σ 14 j t (w (5 + 3 * t) + grewW w t)) j (stepG (t + 1) t 0 w) := by
      rw [← stepG_upg t 0 (by omega)]
      exact RelW_girth (stepG_WF hw t t 0 (by omega)) (by omega) hR
    have hoff : ∀ s' j', ¬ (isW s' ∧ j' = j) → hup σ 14 j t (w (5 + 3 * t) + grewW w t) s' j' = σ s' j' := fun s' j' h => by
      rw [hup_row, srow_ne (fun z => h ⟨Or.inr (by omega), z.2⟩)]
    rw [closes5 (by rw [hup_s (by omega)]; omega), hup_s (s' := 13) (by omega), hup_s (s' := 5) (by omega), g1, e1]
    have hhe : healS (w (4 + 3 * t)) (grewW w t) (w 1) = healW w t := rfl
    rw [hhe]
    by_cases hh : healW w t = 0
    · rw [if_pos hh]
      obtain ⟨σ', q1, q2, q3⟩ := ih (t + 1) n _ (by omega) (by omega) (show RelW (hup σ 14 j t (w (5 + 3 * t) + grewW w t)) j (stepG ((t + 1 : Nat) : Int) ((t + 1 : Nat) : Int) 0 w) from by
        rw [show ((t + 1 : Nat) : Int) = (t : Int) + 1 by omega, ← stepG_end _ t 0 (Or.inl hh)]
        exact hR2)
      exact ⟨σ', q1, q2, fun s' j' h => (q3 s' j' h).trans (hoff s' j' h)⟩
    · rw [if_neg hh]
      obtain ⟨c3, hc3⟩ : ∃ c : Nat, (c : Int) = w 3 := ⟨(w 3).toNat, by omega⟩
      obtain ⟨σ1, p1, p2, p3⟩ := close5 (j := j) hw (a := (t : Int) + 1) (by omega) hh c3 0 FU _ (by omega) (by rw [FU_eq]; omega) hR2
      have p1' : fX5_closeCutsOf (hup σ 14 j t (w (5 + 3 * t) + grewW w t)) j t = some (0, σ1) := p1
      rw [p1', cl_pos]
      obtain ⟨σ', q1, q2, q3⟩ := ih (t + 1) n σ1 (by omega) (by omega) (by
        rw [show ((t + 1 : Nat) : Int) = (t : Int) + 1 by omega, ← stepG_end _ t (w 3) (Or.inr (Int.le_refl _))]
        exact p2)
      exact ⟨σ', q1, q2, fun s' j' h => ((q3 s' j' h).trans (p3 s' j' (fun z => h ⟨Or.inr (by omega), z.2⟩))).trans (hoff s' j' h)⟩
theorem year5_sp {σ : Hp} {j : Nat} {w : Wv} {Y : Int} (hw : WF Y w) (hY : Y < 99999) (hR : RelW σ j w) : ∃ σ', fX5_passYear σ j = some (0, σ') ∧ RelW σ' j (stepW w) ∧ ∀ s' j', ¬ (isW s' ∧ j' = j) → σ' s' j' = σ s' j' := by
  have hw2 := hw.2.2.1
  obtain ⟨c2, hc2⟩ : ∃ c : Nat, (c : Int) = w 2 := ⟨(w 2).toNat, by omega⟩
  unfold fX5_passYear
  exact year5 hw hY c2 0 FU σ (by omega) (by rw [FU_eq]; omega) (by rw [show ((0 : Nat) : Int) = 0 from rfl, stepG_0 w hw]; exact hR)
