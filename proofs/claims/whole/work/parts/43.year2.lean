/-! the model's YEAR -/
set_option maxRecDepth 20000 in
theorem passes_in {σ : Hp} {s j : Nat} {w : Wv} {Y : Int} (ha : alen s = 48) (hw : WF Y w) {t : Nat} (ht : (t : Int) < w 2) {res : Option (Int × Hp)} {K : Nat}
    (hk : ∀ m, K ≤ m → lX7_passes_2 m 0 (srow σ s j (stepG (t + 1) (t + 1) 0 w)) s j (t + 1) 0 0 0 0 = res) :
    ∀ (d c n : Nat), (c : Int) + d = w 3 → K + d + 1 ≤ n → lX7_passes_2 n 1 (srow σ s j (stepG t t c w)) s j t (4 + 3 * (t : Int)) (grewW w t) (healW w t) c = res := by
  have hw2 := hw.2.2.1
  have hw3 := hw.2.2.2.1
  have hg := grewW_in hw ht
  have hg0 := (hw.2.2.2.2.1 t ht).2.1
  have e54 : (wr ((4 + 3 * (t : Int)) + 1)).toNat = 5 + 3 * t := by rw [wr_of (by omega) (by omega)]; omega
  have fin : ∀ (n : Nat) (C : Int), K ≤ n → (healW w t = 0 ∨ w 3 ≤ C) → gd ((0 : Int) ≤ wr (4 + 3 * (t : Int) + 1) ∧ wr (4 + 3 * (t : Int) + 1) < (alen s : Int)) (gd ((0 : Int) ≤ wr (4 + 3 * (t : Int) + 1) ∧ wr (4 + 3 * (t : Int) + 1) < (alen s : Int)) (sq (hup (srow σ s j (stepG t t C w)) s j (wr (4 + 3 * (t : Int) + 1)).toNat (wr ((srow σ s j (stepG t t C w) s j (wr (4 + 3 * (t : Int) + 1)).toNat) + grewW w t))) (fun σ22 => lX7_passes_2 n 0 σ22 s j (wr (t + 1)) 0 0 0 0))) = res := by
    intro n C hn hC
    rw [gd_pos (by rw [ha, wr_of (by omega) (by omega)]; omega), gd_pos (by rw [ha, wr_of (by omega) (by omega)]; omega)]
    unfold sq
    rw [e54, srow_at, hup_srow, stepG_girth _ _ _ _ (by omega), if_neg (by omega), wr_of (x := w (5 + 3 * t) + grewW w t) (by omega) (by omega), stepG_upg t C (by omega), wr_of (x := (t : Int) + 1) (by omega) (by omega), stepG_end _ t C hC]
    exact hk n hn
  intro d
  induction d with
  | zero =>
    intro c n hc hn
    obtain ⟨n, rfl⟩ : ∃ m, n = m + 1 := ⟨n - 1, by omega⟩
    rw [lX7_passes_2_e1, gd_pos (by rw [ha]; omega), if_pos (by rw [srow_at, stepG_low _ _ _ _ (by omega)]; omega)]
    exact fin n c (by omega) (Or.inr (by omega))
  | succ d ih =>
    intro c n hc hn
    obtain ⟨n, rfl⟩ : ∃ m, n = m + 1 := ⟨n - 1, by omega⟩
    rw [lX7_passes_2_e1, gd_pos (by rw [ha]; omega), if_neg (by rw [srow_at, stepG_low _ _ _ _ (by omega)]; omega)]
    by_cases hh : healW w t = 0
    · rw [if_pos hh]
      exact fin n c (by omega) (Or.inl hh)
    · rw [if_neg hh]
      have e1 : wr (16 + wr (4 * (c : Int))) = 16 + 4 * c := by rw [wr_of (x := 4 * (c : Int)) (by omega) (by omega), wr_of (by omega) (by omega)]
      have e2 : wr (16 + 4 * (c : Int) + 3) = 19 + 4 * c := by rw [wr_of (by omega) (by omega)]; omega
      have e3 : (16 + 4 * (c : Int)).toNat = 16 + 4 * c := by omega
      have e4 : (19 + 4 * (c : Int)).toNat = 19 + 4 * c := by omega
      have e5 : wr ((c : Int) + 1) = ((c + 1 : Nat) : Int) := by rw [wr_of (by omega) (by omega)]; omega
      have e6 := stepG_cut t t c w c 0 (by omega)
      rw [Nat.add_zero] at e6
      have e7 := stepG_depth t t c w c
      have hr := ((stepG_WF hw t t c (by omega)).2.2.2.2.2 c (by rw [stepG_low _ _ _ _ (by omega)]; omega)).2.2.2
      have hd := (hw.2.2.2.2.2 c (by omega)).2.2.2
      simp only [e1, e2, e3, e4, e5]
      rw [gd_pos (by rw [ha]; omega), gd_pos (by rw [ha]; omega)]
      simp only [srow_at, e6, hup_srow]
      have same : up1 (stepG t t c w) (19 + 4 * c) (wr (stepG t t c w (19 + 4 * c) - 0)) = stepG t t c w := by
        rw [wr_of (by omega) (by omega), Int.sub_zero]
        funext x
        unfold up1
        split
        · rename_i hx
          rw [hx]
        · rfl
      have iht := ih (c + 1) n (by omega) (by omega)
      by_cases hT : w (16 + 4 * c) = t
      · rw [if_neg (fun z => by omega)] at e7
        rw [if_pos hT, gd_pos (by rw [ha]; omega), same, e7]
        by_cases hd0 : w (19 + 4 * c) ≤ 0
        · rw [if_pos hd0, gd_pos (by rw [ha]; omega)]
          simp only [sq]
          rw [stepG_skip _ _ (fun z => by omega)]
          exact iht
        · rw [if_neg hd0, gd_pos (by rw [ha]; omega)]
          simp only [sq]
          rw [wr_of (by omega) (by omega), stepG_upd _ _ (by omega) hT (by simpa using hh) (by omega)]
          exact iht
      · rw [if_neg hT, gd_pos (by rw [ha]; omega)]
        simp only [sq]
        rw [same, stepG_skip _ _ (fun z => hT z.1)]
        exact iht
set_option maxRecDepth 20000 in
theorem passes_out {σ : Hp} {s j : Nat} {w : Wv} {Y : Int} (ha : alen s = 48) (hw : WF Y w) (hY : Y < 99999) : ∀ (d t n : Nat), (t : Int) + d = w 2 → 10 * d + 1 ≤ n →
    lX7_passes_2 n 0 (srow σ s j (stepG t t 0 w)) s j t 0 0 0 0 = some (0, srow σ s j (stepW w)) := by
  have hw1 := hw.2.1
  have hw2 := hw.2.2.1
  have hw3 := hw.2.2.2.1
  intro d
  induction d with
  | zero =>
    intro t n ht hn
    obtain ⟨n, rfl⟩ : ∃ m, n = m + 1 := ⟨n - 1, by omega⟩
    rw [lX7_passes_2_e0, gd_pos (by rw [ha]; omega), if_pos (by rw [srow_at, stepG_low _ _ _ _ (by omega)]; omega), gd_pos (by rw [ha]; omega), gd_pos (by rw [ha]; omega)]
    unfold sq
    rw [hup_srow, srow_at, stepG_low _ _ _ _ (by omega), wr_of (by omega) (by omega)]
    have e : (t : Int) = w 2 := by omega
    rw [e, stepW_end]
  | succ d ih =>
    intro t n ht hn
    obtain ⟨n, rfl⟩ : ∃ m, n = m + 1 := ⟨n - 1, by omega⟩
    have hlt : (t : Int) < w 2 := by omega
    obtain ⟨h1, h2, h3⟩ := hw.2.2.2.2.1 t hlt
    rw [lX7_passes_2_e0, gd_pos (by rw [ha]; omega), if_neg (by rw [srow_at, stepG_low _ _ _ _ (by omega)]; omega)]
    have e1 : wr (4 + wr (3 * (t : Int))) = 4 + 3 * t := by rw [wr_of (x := 3 * (t : Int)) (by omega) (by omega), wr_of (by omega) (by omega)]
    have e2 : wr (4 + 3 * (t : Int) + 2) = 6 + 3 * t := by rw [wr_of (by omega) (by omega)]; omega
    have e3 : wr (4 + 3 * (t : Int) + 1) = 5 + 3 * t := by rw [wr_of (by omega) (by omega)]; omega
    have n1 : (4 + 3 * (t : Int)).toNat = 4 + 3 * t := by omega
    have n2 : (6 + 3 * (t : Int)).toNat = 6 + 3 * t := by omega
    have n3 : (5 + 3 * (t : Int)).toNat = 5 + 3 * t := by omega
    simp only [e1, e2, e3, n1, n2, n3]
    rw [gd_pos (by rw [ha]; omega), gd_pos (by rw [ha]; omega), gd_pos (by rw [ha]; omega), gd_pos (by rw [ha]; omega)]
    simp only [sq, srow_at]
    rw [gd_pos (by rw [ha]; omega), gd_pos (by rw [ha]; omega)]
    rw [stepG_kind _ _ _ _ (by omega), stepG_sun _ _ _ _ (by omega), stepG_girth _ _ _ _ (by omega), if_neg (by omega), stepG_low _ _ _ _ (by omega), grow7 h3.1 h3.2 hw1.1 (by omega) h2.1 h2.2, heal7 hw1.1 (by omega)]
    have hh : ∀ m, 10 * d + 1 ≤ m → lX7_passes_2 m 0 (srow σ s j (stepG (t + 1) (t + 1) 0 w)) s j (t + 1) 0 0 0 0 = some (0, srow σ s j (stepW w)) := fun m hm => ih (t + 1) m (by omega) hm
    obtain ⟨c3, hc3⟩ : ∃ c : Nat, (c : Int) = w 3 := ⟨(w 3).toNat, by omega⟩
    exact passes_in ha hw hlt hh c3 0 n (by omega) (by omega)
theorem passes_sp (σ : Hp) {s j : Nat} {Y : Int} (ha : alen s = 48) (hw : WF Y (σ s j)) (hY : Y < 99999) : fX7_passes σ s j = some (0, srow σ s j (stepW (σ s j))) := by
  unfold fX7_passes
  have hw2 := hw.2.2.1
  obtain ⟨c2, hc2⟩ : ∃ c : Nat, (c : Int) = (σ s j) 2 := ⟨((σ s j) 2).toNat, by omega⟩
  have h := passes_out (σ := σ) (s := s) (j := j) ha hw hY c2 0 FU (by omega) (by rw [FU_eq]; omega)
  rw [show ((0 : Nat) : Int) = 0 from rfl, stepG_0 _ hw, srow_self] at h
  exact h
