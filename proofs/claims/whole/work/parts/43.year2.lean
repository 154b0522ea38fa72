/-! the model's YEAR -/
theorem ite_t {α : Sort _} {c : Prop} [Decidable c] {a b : α} (h : c) : (if c then a else b) = a := if_pos h
theorem ite_f {α : Sort _} {c : Prop} [Decidable c] {a b : α} (h : ¬ c) : (if c then a else b) = b := if_neg h
set_option maxRecDepth 20000 in
theorem passes_in {σ : Hp} {s j : Nat} {w : Wv} {Y : Int} (ha : alen s = 48) (hw : WF Y w) (hY : Y < 99999) {t : Nat} (ht : (t : Int) < w 2) :
    ∀ (d c n : Nat), (c : Int) + d = w 3 → d + 1 ≤ n → lX7_passes_2 n 1 (srow σ s j (stepG t t c w)) s j t (4 + 3 * (t : Int)) (grewW w t) (healW w t) c = lX7_passes_2 (n - d - 1) 0 (srow σ s j (stepG (t + 1) (t + 1) 0 w)) s j (t + 1) 0 0 0 0 := by
  have hw2 := hw.2.2.1
  have hw3 := hw.2.2.2.1
  have hg := grewW_in hw ht
  have e54 : (wr ((4 + 3 * (t : Int)) + 1)).toNat = 5 + 3 * t := by rw [wr_of (by omega) (by omega)]; omega
  have fin : ∀ (n : Nat) (C : Int), (healW w t = 0 ∨ w 3 ≤ C) → gd ((0 : Int) ≤ wr (4 + 3 * (t : Int) + 1) ∧ wr (4 + 3 * (t : Int) + 1) < (alen s : Int)) (gd ((0 : Int) ≤ wr (4 + 3 * (t : Int) + 1) ∧ wr (4 + 3 * (t : Int) + 1) < (alen s : Int)) (sq (hup (srow σ s j (stepG t t C w)) s j (wr (4 + 3 * (t : Int) + 1)).toNat (wr ((srow σ s j (stepG t t C w) s j (wr (4 + 3 * (t : Int) + 1)).toNat) + grewW w t))) (fun σ22 => lX7_passes_2 n 0 σ22 s j (wr (t + 1)) 0 0 0 0))) = lX7_passes_2 n 0 (srow σ s j (stepG (t + 1) (t + 1) 0 w)) s j (t + 1) 0 0 0 0 := by
    intro n C hC
    rw [gd_pos (by rw [ha, wr_of (by omega) (by omega)]; omega), gd_pos (by rw [ha, wr_of (by omega) (by omega)]; omega)]
    unfold sq
    rw [e54, srow_at, hup_srow, stepG_girth _ _ _ _ (by omega), if_neg (by omega), wr_of (x := w (5 + 3 * t) + grewW w t) (by omega) (by omega), stepG_upg t C (by omega), wr_of (x := (t : Int) + 1) (by omega) (by omega), stepG_end _ t C hC]
  intro d
  induction d with
  | zero =>
    intro c n hc hn
    obtain ⟨n, rfl⟩ : ∃ m, n = m + 1 := ⟨n - 1, by omega⟩
    rw [lX7_passes_2_e1, gd_pos (by rw [ha]; omega), if_pos (by rw [srow_at, stepG_low _ _ _ _ (by omega)]; omega), fin n c (Or.inr (by omega))]
    rfl
  | succ d ih =>
    intro c n hc hn
    obtain ⟨n, rfl⟩ : ∃ m, n = m + 1 := ⟨n - 1, by omega⟩
    rw [lX7_passes_2_e1, gd_pos (by rw [ha]; omega), if_neg (by rw [srow_at, stepG_low _ _ _ _ (by omega)]; omega)]
    sorry
