/-! meet -/
theorem place6 {σ : Hp} {w : Wv} {j a b : Nat} {Y : Int} (hR : RelW σ j w) (hw : WF Y w) (ha : (a : Int) < w 3) (hb : (b : Int) < w 3) : fX5_placesApart σ j a b = some (btw (w (18 + 4 * a)) (w (18 + 4 * b)), σ) := by
  have h3 := hw.2.2.2.1
  obtain ⟨p1, p2, p3, p4⟩ := hR.2.2.2.2.2.2 a ha
  obtain ⟨q1, q2, q3, q4⟩ := hR.2.2.2.2.2.2 b hb
  obtain ⟨u1, u2, u3, u4⟩ := hw.2.2.2.2.2 a ha
  obtain ⟨v1, v2, v3, v4⟩ := hw.2.2.2.2.2 b hb
  unfold fX5_placesApart btw qmin qabs
  rw [gd_pos (by omega), gd_pos (by omega), Int.toNat_natCast, Int.toNat_natCast, p3, q3, wr_of (x := w (18 + 4 * a) - w (18 + 4 * b)) (by omega) (by omega)]
  by_cases c : 0 ≤ w (18 + 4 * a) - w (18 + 4 * b)
  · rw [if_pos c, if_pos c, wr_of (x := w (18 + 4 * a) - w (18 + 4 * b)) (by omega) (by omega), wr_of (by omega) (by omega)]
    split <;> split <;> first | rfl | omega
  · rw [if_neg c, if_neg c, show (0 : Int) - (w (18 + 4 * a) - w (18 + 4 * b)) = w (18 + 4 * b) - w (18 + 4 * a) by omega, wr_of (x := w (18 + 4 * b) - w (18 + 4 * a)) (by omega) (by omega), wr_of (by omega) (by omega)]
    split <;> split <;> first | rfl | omega
theorem place7 {σ : Hp} {w : Wv} {s j a b : Nat} {Y : Int} (e : σ s j = w) (hl : 48 ≤ alen s) (hw : WF Y w) (ha : (a : Int) < w 3) (hb : (b : Int) < w 3) : fX7_between σ s j a b = some (btw (w (18 + 4 * a)) (w (18 + 4 * b)), σ) := by
  have h3 := hw.2.2.2.1
  obtain ⟨u1, u2, u3, u4⟩ := hw.2.2.2.2.2 a ha
  obtain ⟨v1, v2, v3, v4⟩ := hw.2.2.2.2.2 b hb
  have hla : (48 : Int) ≤ (alen s : Int) := by omega
  have e2 : ∀ c : Nat, c < 8 → wr (wr (16 + wr (4 * (c : Int))) + 2) = ((18 + 4 * c : Nat) : Int) := fun c hc => by
    rw [wr16c (by omega), wr_of (by omega) (by omega)]; omega
  unfold fX7_between jX7_between_32 btw
  rw [e2 a (by omega), e2 b (by omega), gd_pos (by omega), gd_pos (by omega), Int.toNat_natCast, Int.toNat_natCast, e, wr_of (x := w (18 + 4 * a) - w (18 + 4 * b)) (by omega) (by omega), show -(w (18 + 4 * a) - w (18 + 4 * b)) = w (18 + 4 * b) - w (18 + 4 * a) by omega, wr_of (x := w (18 + 4 * b) - w (18 + 4 * a)) (by omega) (by omega)]
  by_cases c : 0 ≤ w (18 + 4 * a) - w (18 + 4 * b)
  · rw [if_pos c, if_pos c, wr_of (by omega) (by omega)]
    split <;> rfl
  · rw [if_neg c, if_neg c, wr_of (by omega) (by omega)]
    split <;> rfl
theorem behind6 {σ : Hp} {w : Wv} {j a b : Nat} {Y : Int} (hR : RelW σ j w) (hw : WF Y w) (ha : (a : Int) < w 3) (hb : (b : Int) < w 3) : fX5_meetBehind σ j a b = some (if bothW w a b ∧ 28 < btw (w (18 + 4 * a)) (w (18 + 4 * b)) then 1 else 0, σ) := by
  unfold fX5_meetBehind
  rw [both6 hR hw ha hb, cl_pos]
  by_cases c : bothW w a b
  · rw [if_pos c, if_neg (by omega), place6 hR hw ha hb, cl_pos]
    by_cases c2 : btw (w (18 + 4 * a)) (w (18 + 4 * b)) < 29
    · rw [if_pos c2, if_neg (fun z => by have := z.2; omega)]
    · rw [if_neg c2, if_pos ⟨c, by omega⟩]
  · rw [if_neg c, if_pos rfl, if_neg (fun z => c z.1)]
theorem meet_in {σ : Hp} {w : Wv} {t a : Nat} {v2 : Int} (e27 : σ 27 0 = w) (hR : RelW σ 0 w) (hw : WF 999 w) (ha : (a : Int) < w 3) {K : Nat}
    (hk : ∀ (k f : Int) (n m : Nat), K ≤ n → K ≤ m → 0 ≤ k → k ≤ 10 * (a + 1) → ∃ r, lX6_meet_30 n 0 σ t v2 k f ((a + 1 : Nat) : Int) 0 = some (r, σ) ∧ lX7_meet_39 m 0 σ v2 (onW w t : Nat) k f ((a + 1 : Nat) : Int) 0 0 0 = some (r, σ)) :
    ∀ (d b n m : Nat) (k f : Int), (b : Int) + d = w 3 → K + d + 1 ≤ n → K + 4 * d + 1 ≤ m → 0 ≤ k → k ≤ 10 * a + b → ∃ r, lX6_meet_30 n 1 σ t v2 k f a b = some (r, σ) ∧ lX7_meet_39 m 1 σ v2 (onW w t : Nat) k f a b 0 0 = some (r, σ) := by
  have h3 := hw.2.2.2.1
  have ea : wr ((a : Int) + 1) = ((a + 1 : Nat) : Int) := by rw [wr_of (by omega) (by omega)]; omega
  have hM := onW_lt hw t
  intro d
  induction d with
  | zero =>
    intro b n m k f hb hn hm hk0 hk1
    obtain ⟨n, rfl⟩ : ∃ m, n = m + 1 := ⟨n - 1, by omega⟩
    obtain ⟨m, rfl⟩ : ∃ q, m = q + 1 := ⟨m - 1, by omega⟩
    rw [lX6_meet_30_e1, if_pos (show σ 5 0 11 ≤ (b : Int) by rw [hR.2.2.2.2.1]; omega), lX7_meet_39_e1, e27, if_pos (show w 3 ≤ (b : Int) by omega), ea]
    exact hk k f n m (by omega) (by omega) hk0 (by omega)
  | succ d ih =>
    intro b n m k f hb hn hm hk0 hk1
    obtain ⟨n, rfl⟩ : ∃ m, n = m + 1 := ⟨n - 1, by omega⟩
    obtain ⟨m, rfl⟩ : ∃ q, m = q + 1 + 1 + 1 := ⟨m - 3, by omega⟩
    have hbl : (b : Int) < w 3 := by omega
    have eb : wr ((b : Int) + 1) = ((b + 1 : Nat) : Int) := by rw [wr_of (by omega) (by omega)]; omega
    have ek0 : wr (k + 0) = k := by rw [wr_of (by omega) (by omega)]; omega
    have ek1 : wr (k + 1) = k + 1 := wr_of (by omega) (by omega)
    have p16 := (hR.2.2.2.2.2.2 a ha).1
    have iht := fun k' f' hk0 hk1 => ih (b + 1) n m k' f' (by omega) (by omega) (by omega) hk0 hk1
    have no : ∃ r, lX6_meet_30 n 1 σ t v2 k f a ((b + 1 : Nat) : Int) = some (r, σ) ∧ lX7_meet_39 (m + 1 + 1) 2 σ v2 (onW w t : Nat) k f a b 0 0 = some (r, σ) := by
      rw [lX7_meet_39_e2, if_pos rfl, lX7_meet_39_e3, if_pos rfl, ek0, eb]
      exact iht k f hk0 (by omega)
    rw [lX6_meet_30_e1, if_neg (show ¬ σ 5 0 11 ≤ (b : Int) by rw [hR.2.2.2.2.1]; omega), lX7_meet_39_e1, e27, if_neg (show ¬ w 3 ≤ (b : Int) by omega), gd_pos (by omega), Int.toNat_natCast, p16, eb, hasN (by omega) (by omega), hasN (by omega) (by omega), behind6 hR hw ha hbl, cl_pos, place7 e27 (by show 48 ≤ 48; omega) hw ha hbl, cl_pos]
    have ba := onW_bit (w := w) (t := t) (i := a) h3.1
    have bb := onW_bit (w := w) (t := t) (i := b) h3.1
    by_cases c1 : w (16 + 4 * a) = t
    · rw [if_pos c1]
      by_cases c2 : bothW w a b ∧ 28 < btw (w (18 + 4 * a)) (w (18 + 4 * b))
      · obtain ⟨⟨d1, d2, d3⟩, d4⟩ := id c2
        rw [if_pos c2, if_neg (show ¬ (1 : Int) = 0 by omega), if_pos (ba.mpr ⟨ha, d2, c1⟩), if_neg (show ¬ (1 : Int) = 0 by omega), if_pos (bb.mpr ⟨hbl, d3, by rw [← d1]; exact c1⟩), if_neg (show ¬ (1 : Int) = 0 by omega), if_neg (show ¬ btw (w (18 + 4 * a)) (w (18 + 4 * b)) ≤ 28 by omega), lX7_meet_39_e2]
        have e10 : wr (10 * (a : Int)) = 10 * a := wr_of (by omega) (by omega)
        have e10b : wr (10 * (a : Int) + b) = 10 * a + b := wr_of (by omega) (by omega)
        rw [if_neg (show ¬ (1 : Int) = 0 by omega), e10, e10b]
        by_cases c3 : k = 0
        · simp only [if_pos c3]
          rw [lX7_meet_39_e3, if_neg (show ¬ (1 : Int) = 0 by omega), ek1, eb]
          exact iht (k + 1) (10 * a + b) (by omega) (by omega)
        · simp only [if_neg c3]
          rw [lX7_meet_39_e3, if_neg (show ¬ (1 : Int) = 0 by omega), ek1, eb]
          exact iht (k + 1) f (by omega) (by omega)
      · rw [if_neg c2, if_pos (show (0 : Int) = 0 from rfl)]
        by_cases x1 : (onW w t).testBit a = true
        · rw [if_pos x1, if_neg (show ¬ (1 : Int) = 0 by omega)]
          by_cases x2 : (onW w t).testBit b = true
          · rw [if_pos x2, if_neg (show ¬ (1 : Int) = 0 by omega), if_pos (show btw (w (18 + 4 * a)) (w (18 + 4 * b)) ≤ 28 by
              have y1 := ba.mp x1
              have y2 := bb.mp x2
              have := fun z => c2 ⟨⟨by rw [y1.2.2, y2.2.2], y1.2.1, y2.2.1⟩, z⟩
              omega)]
            exact no
          · rw [if_neg x2, if_pos (show (0 : Int) = 0 from rfl)]
            exact no
        · rw [if_neg x1, if_pos (show (0 : Int) = 0 from rfl)]
          exact no
    · rw [if_neg c1, if_neg (show ¬ (onW w t).testBit a = true from fun z => c1 (ba.mp z).2.2), if_pos (show (0 : Int) = 0 from rfl)]
      exact no
theorem meet_out {σ : Hp} {w : Wv} {t : Nat} {v2 : Int} (e27 : σ 27 0 = w) (hR : RelW σ 0 w) (hw : WF 999 w) : ∀ (d a n m : Nat) (k f : Int), (a : Int) + d = w 3 → 100 * d + 1 ≤ n → 100 * d + 1 ≤ m → 0 ≤ k → k ≤ 10 * a →
    ∃ r, lX6_meet_30 n 0 σ t v2 k f a 0 = some (r, σ) ∧ lX7_meet_39 m 0 σ v2 (onW w t : Nat) k f a 0 0 0 = some (r, σ) := by
  have h3 := hw.2.2.2.1
  intro d
  induction d with
  | zero =>
    intro a n m k f ha hn hm hk0 hk1
    obtain ⟨n, rfl⟩ : ∃ m, n = m + 1 := ⟨n - 1, by omega⟩
    obtain ⟨m, rfl⟩ : ∃ q, m = q + 1 := ⟨m - 1, by omega⟩
    rw [lX6_meet_30_e0, if_pos (show σ 5 0 11 ≤ (a : Int) by rw [hR.2.2.2.2.1]; omega), lX7_meet_39_e0, e27, if_pos (show w 3 ≤ (a : Int) by omega)]
    by_cases hv : v2 = 0
    · simp only [if_pos hv]
      exact ⟨_, rfl, rfl⟩
    · simp only [if_neg hv]
      exact ⟨_, rfl, rfl⟩
  | succ d ih =>
    intro a n m k f ha hn hm hk0 hk1
    obtain ⟨n, rfl⟩ : ∃ m, n = m + 1 := ⟨n - 1, by omega⟩
    obtain ⟨m, rfl⟩ : ∃ q, m = q + 1 := ⟨m - 1, by omega⟩
    have ea : wr ((a : Int) + 1) = ((a + 1 : Nat) : Int) := by rw [wr_of (by omega) (by omega)]; omega
    rw [lX6_meet_30_e0, if_neg (show ¬ σ 5 0 11 ≤ (a : Int) by rw [hR.2.2.2.2.1]; omega), lX7_meet_39_e0, e27, if_neg (show ¬ w 3 ≤ (a : Int) by omega), ea]
    exact meet_in e27 hR hw (by omega) (K := 100 * d + 1) (fun k f n m h1 h2 h4 h5 => ih (a + 1) n m k f (by omega) h1 h2 h4 (by omega)) (w 3 - 1 - a).toNat (a + 1) n m k f (by omega) (by omega) (by omega) hk0 (by omega)
theorem ok_meet {σ : Hp} (h : Sim σ) {a b : Int} : Ok (fun τ => fX6_meet τ a b) (fun τ => fX7_meet τ a b) σ := by
  obtain ⟨hR, hw⟩ := h.2.2.1.1
  have h2 := hw.2.2.1
  have h3 := hw.2.2.2.1
  by_cases ha : 0 ≤ a ∧ a < σ 27 0 2
  case neg =>
    refine Ok.same (r := -1000001) h ?_ ?_
    · simp only [fX6_meet]; rw [if_pos ((tree6 hR).mpr ha)]
    · simp only [fX7_meet]; rw [if_pos ((tree7 hw).mpr ha)]
  by_cases hb : 0 ≤ b ∧ b ≤ 1
  case neg =>
    refine Ok.same (r := -1000001) h ?_ ?_
    · simp only [fX6_meet]; rw [if_neg (fun z => (tree6 hR).mp z ha), if_pos (choice6_0.mpr hb)]
    · simp only [fX7_meet]; rw [if_neg (fun z => (tree7 hw).mp z ha), if_pos (in_0.mpr hb)]
  obtain ⟨t, rfl⟩ : ∃ k : Nat, a = k := ⟨a.toNat, by omega⟩
  obtain ⟨r, e6, e7⟩ := meet_out (σ := σ) (t := t) (v2 := b) rfl hR hw (σ 27 0 3).toNat 0 FU FU 0 (-1000000) (by omega) (by rw [FU_eq]; omega) (by rw [FU_eq]; omega) (by omega) (by omega)
  have e6' : lX6_meet_30 FU 0 σ t b 0 (-1000000) 0 0 = some (r, σ) := e6
  have e7' : lX7_meet_39 FU 0 σ b (onW (σ 27 0) t : Nat) 0 (-1000000) 0 0 0 0 = some (r, σ) := e7
  refine Ok.same (r := r) h ?_ ?_
  · simp only [fX6_meet]
    rw [if_neg (fun z => (tree6 hR).mp z ha), if_neg (fun z => choice6_0.mp z hb), e6']
  · simp only [fX7_meet]
    rw [if_neg (fun z => (tree7 hw).mp z ha), if_neg (in_1 hb), legO7 rfl (by show 48 ≤ 48; omega) hw (by omega), cl_pos, e7']
