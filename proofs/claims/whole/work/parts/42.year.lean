/-! a row of the heap, said whole -/
def srow (σ : Hp) (s j : Nat) (f : Nat → Int) : Hp := fun s' j' => if s' = s ∧ j' = j then f else σ s' j'
theorem srow_at (σ : Hp) (s j : Nat) (f : Nat → Int) : srow σ s j f s j = f := if_pos ⟨rfl, rfl⟩
theorem srow_ne {σ : Hp} {s j s' j' : Nat} {f : Nat → Int} (h : ¬ (s' = s ∧ j' = j)) : srow σ s j f s' j' = σ s' j' := if_neg h
theorem srow_self (σ : Hp) (s j : Nat) : srow σ s j (σ s j) = σ := by
  funext s' j'
  unfold srow
  split
  · rename_i h
    rw [h.1, h.2]
  · rfl
theorem srow_srow (σ : Hp) (s j : Nat) (f g : Nat → Int) : srow (srow σ s j f) s j g = srow σ s j g := by
  funext s' j'
  unfold srow
  split <;> rfl
def up1 (f : Nat → Int) (k : Nat) (v : Int) : Nat → Int := fun x => if x = k then v else f x
theorem hup_srow (σ : Hp) (s j k : Nat) (f : Nat → Int) (v : Int) : hup (srow σ s j f) s j k v = srow σ s j (up1 f k v) := by
  funext s' j' k'
  unfold hup srow up1
  by_cases h : s' = s ∧ j' = j
  · rw [if_pos h, if_pos h]
    by_cases hk : k' = k
    · rw [if_pos ⟨h.1, h.2, hk⟩, if_pos hk]
    · rw [if_neg (fun z => hk z.2.2), if_neg hk]
  · rw [if_neg h, if_neg h, if_neg (fun z => h ⟨z.1, z.2.1⟩)]
theorem hup_row (σ : Hp) (s j k : Nat) (v : Int) : hup σ s j k v = srow σ s j (up1 (σ s j) k v) := by
  conv => lhs; rw [← srow_self σ s j]
  exact hup_srow σ s j k _ v
theorem up1_at (f : Nat → Int) (k : Nat) (v : Int) : up1 f k v k = v := if_pos rfl
theorem up1_ne {f : Nat → Int} {k x : Nat} {v : Int} (h : x ≠ k) : up1 f k v x = f x := if_neg h
/-! the steps of a YEAR -/
theorem stepG_upg {w : Wv} {t : Nat} (T C : Int) (ht : t < 4) : up1 (stepG t T C w) (5 + 3 * t) (w (5 + 3 * t) + grewW w t) = stepG (t + 1) T C w := by
  funext k
  unfold up1
  by_cases hk : k = 5 + 3 * t
  · rw [if_pos hk, hk, stepG_girth _ T C w ht, if_pos (by omega)]
  · rw [if_neg hk]
    unfold stepG
    by_cases h16 : k < 16
    · rw [if_pos h16, if_pos h16]
      by_cases hc : 4 ≤ k ∧ (k - 4) % 3 = 1 ∧ (((k - 4) / 3 : Nat) : Int) < t
      · rw [if_pos hc, if_pos (by omega)]
      · rw [if_neg hc, if_neg (by omega)]
    · rw [if_neg h16, if_neg h16]
theorem stepG_upd {w : Wv} {c : Nat} (a T : Int) (hc : (c : Int) < w 3) (hT : w (16 + 4 * c) = T) (hh : healW w T.toNat ≠ 0) (hd : 0 < w (19 + 4 * c)) : up1 (stepG a T c w) (19 + 4 * c) (w (19 + 4 * c) - 1) = stepG a T (c + 1) w := by
  funext k
  unfold up1
  by_cases hk : k = 19 + 4 * c
  · rw [if_pos hk, hk, stepG_depth, if_pos ⟨hc, Or.inr ⟨hT, by omega⟩, by rw [hT]; exact hh, hd⟩]
  · rw [if_neg hk]
    unfold stepG
    by_cases h16 : k < 16
    · rw [if_pos h16, if_pos h16]
    · rw [if_neg h16, if_neg h16]
      by_cases hq : (k - 16) % 4 = 3
      · have hne : (((k - 16) / 4 : Nat) : Int) ≠ c := by omega
        have e : ((k - 16) % 4 = 3 ∧ (((k - 16) / 4 : Nat) : Int) < w 3 ∧ (w (k - 3) < T ∨ (w (k - 3) = T ∧ (((k - 16) / 4 : Nat) : Int) < c)) ∧ healW w (w (k - 3)).toNat ≠ 0 ∧ 0 < w k) ↔ ((k - 16) % 4 = 3 ∧ (((k - 16) / 4 : Nat) : Int) < w 3 ∧ (w (k - 3) < T ∨ (w (k - 3) = T ∧ (((k - 16) / 4 : Nat) : Int) < c + 1)) ∧ healW w (w (k - 3)).toNat ≠ 0 ∧ 0 < w k) := by omega
        simp only [e]
      · rw [if_neg (fun z => hq z.1), if_neg (fun z => hq z.1)]
theorem stepG_skip {w : Wv} {c : Nat} (a T : Int) (h : ¬ (w (16 + 4 * c) = T ∧ healW w T.toNat ≠ 0 ∧ 0 < w (19 + 4 * c))) : stepG a T c w = stepG a T (c + 1) w := by
  funext k
  unfold stepG
  by_cases h16 : k < 16
  · rw [if_pos h16, if_pos h16]
  · rw [if_neg h16, if_neg h16]
    by_cases hq : (k - 16) % 4 = 3 ∧ (((k - 16) / 4 : Nat) : Int) = c
    · have hk : k = 19 + 4 * c := by omega
      subst hk
      have e1 : 19 + 4 * c - 3 = 16 + 4 * c := by omega
      rw [e1]
      by_cases hT : w (16 + 4 * c) = T
      · have h2 : ¬ (healW w T.toNat ≠ 0 ∧ 0 < w (19 + 4 * c)) := fun z => h ⟨hT, z⟩
        rw [if_neg (fun z => h2 (by rw [← hT]; exact z.2.2.2)), if_neg (fun z => h2 (by rw [← hT]; exact z.2.2.2))]
      · have e : (w (16 + 4 * c) < T ∨ (w (16 + 4 * c) = T ∧ (((19 + 4 * c - 16) / 4 : Nat) : Int) < c)) ↔ (w (16 + 4 * c) < T ∨ (w (16 + 4 * c) = T ∧ (((19 + 4 * c - 16) / 4 : Nat) : Int) < c + 1)) := by omega
        simp only [e]
    · have e : ((k - 16) % 4 = 3 ∧ (((k - 16) / 4 : Nat) : Int) < w 3 ∧ (w (k - 3) < T ∨ (w (k - 3) = T ∧ (((k - 16) / 4 : Nat) : Int) < c)) ∧ healW w (w (k - 3)).toNat ≠ 0 ∧ 0 < w k) ↔ ((k - 16) % 4 = 3 ∧ (((k - 16) / 4 : Nat) : Int) < w 3 ∧ (w (k - 3) < T ∨ (w (k - 3) = T ∧ (((k - 16) / 4 : Nat) : Int) < c + 1)) ∧ healW w (w (k - 3)).toNat ≠ 0 ∧ 0 < w k) := by omega
      simp only [e]
theorem stepG_end {w : Wv} (a : Int) (t : Nat) (C : Int) (h : healW w t = 0 ∨ w 3 ≤ C) : stepG a t C w = stepG a (t + 1) 0 w := by
  funext k
  unfold stepG
  by_cases h16 : k < 16
  · rw [if_pos h16, if_pos h16]
  · rw [if_neg h16, if_neg h16]
    by_cases hT : w (k - 3) = t
    · have e0 : (w (k - 3)).toNat = t := by omega
      rw [e0]
      have e : ((k - 16) % 4 = 3 ∧ (((k - 16) / 4 : Nat) : Int) < w 3 ∧ (w (k - 3) < t ∨ (w (k - 3) = t ∧ (((k - 16) / 4 : Nat) : Int) < C)) ∧ healW w t ≠ 0 ∧ 0 < w k) ↔ ((k - 16) % 4 = 3 ∧ (((k - 16) / 4 : Nat) : Int) < w 3 ∧ (w (k - 3) < (t : Int) + 1 ∨ (w (k - 3) = (t : Int) + 1 ∧ (((k - 16) / 4 : Nat) : Int) < 0)) ∧ healW w t ≠ 0 ∧ 0 < w k) := by omega
      simp only [e]
    · have e : ((k - 16) % 4 = 3 ∧ (((k - 16) / 4 : Nat) : Int) < w 3 ∧ (w (k - 3) < t ∨ (w (k - 3) = t ∧ (((k - 16) / 4 : Nat) : Int) < C)) ∧ healW w (w (k - 3)).toNat ≠ 0 ∧ 0 < w k) ↔ ((k - 16) % 4 = 3 ∧ (((k - 16) / 4 : Nat) : Int) < w 3 ∧ (w (k - 3) < (t : Int) + 1 ∨ (w (k - 3) = (t : Int) + 1 ∧ (((k - 16) / 4 : Nat) : Int) < 0)) ∧ healW w (w (k - 3)).toNat ≠ 0 ∧ 0 < w k) := by omega
      simp only [e]
theorem stepG_0 (w : Wv) {Y : Int} (hw : WF Y w) : stepG 0 0 0 w = w := by
  funext k
  unfold stepG
  by_cases h16 : k < 16
  · rw [if_pos h16, if_neg (by omega)]
  · rw [if_neg h16]
    by_cases hq : (k - 16) % 4 = 3 ∧ (((k - 16) / 4 : Nat) : Int) < w 3
    · have h5 := (hw.2.2.2.2.2 ((k - 16) / 4) hq.2).1.1
      rw [show 16 + 4 * ((k - 16) / 4) = k - 3 by omega] at h5
      rw [if_neg (by omega)]
    · rw [if_neg (fun z => hq ⟨z.1, z.2.1⟩)]
theorem stepW_end (w : Wv) : up1 (stepG (w 2) (w 2) 0 w) 1 (w 1 + 1) = stepW w := by
  funext k
  unfold up1 stepW
  split <;> rfl
