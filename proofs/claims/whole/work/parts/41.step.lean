/-! a YEAR, as arithmetic -/
def ruledS (k su y : Int) : Int := if k = 1 then 1 + su / 3 else if k = 2 then (1 + su / 3) / 2 else if k = 3 then (if y % 2 = 0 then 3 + su / 3 else 1 + su / 3) else if k = 4 then su else 0
def growS (k su g y : Int) : Int := if 999 ≤ g + ruledS k su y then 999 - g else ruledS k su y
def healS (k gr y : Int) : Int := if k = 2 then (if gr ≤ 0 then 0 else if y % 2 = 1 then 1 else 0) else if gr ≤ 2 then 0 else 1
theorem ruledS_in {k su y : Int} (h1 : 0 ≤ su) (h2 : su ≤ 9) : 0 ≤ ruledS k su y ∧ ruledS k su y ≤ 9 := by
  unfold ruledS
  repeat' split
  all_goals omega
theorem growS_in {k su g y : Int} (h1 : 0 ≤ su) (h2 : su ≤ 9) (h3 : 0 ≤ g) (h4 : g ≤ 999) : 0 ≤ growS k su g y ∧ growS k su g y ≤ 9 ∧ g + growS k su g y ≤ 999 := by
  have h := ruledS_in (k := k) (y := y) h1 h2
  unfold growS
  split <;> omega
theorem healS_in (k gr y : Int) : healS k gr y = 0 ∨ healS k gr y = 1 := by
  unfold healS
  repeat' split
  all_goals simp
theorem ruled7 {k su y : Int} (h1 : 0 ≤ su) (h2 : su ≤ 9) (h3 : 0 ≤ y) (h4 : y < 100000) : fX7_ruled k su y = ruledS k su y := by
  unfold fX7_ruled ruledS
  have e1 : qdiv su 3 = su / 3 := qdiv_of h1 (by omega) (by omega)
  have e2 : qrem y 2 = y % 2 := qrem_of h3 (by omega) (by omega)
  have e3 : wr (1 + su / 3) = 1 + su / 3 := wr_of (by omega) (by omega)
  have e4 : wr (3 + su / 3) = 3 + su / 3 := wr_of (by omega) (by omega)
  have e5 : qdiv (1 + su / 3) 2 = (1 + su / 3) / 2 := qdiv_of (by omega) (by omega) (by omega)
  rw [e1, e2, e3, e4, e5]
theorem grow7 {k su g y : Int} (h1 : 0 ≤ su) (h2 : su ≤ 9) (h3 : 0 ≤ y) (h4 : y < 100000) (h5 : 0 ≤ g) (h6 : g ≤ 999) : fX7_growth k su g y = growS k su g y := by
  have h := ruledS_in (k := k) (y := y) h1 h2
  unfold fX7_growth growS
  rw [ruled7 h1 h2 h3 h4, wr_of (x := g + ruledS k su y) (by omega) (by omega), wr_of (x := 999 - g) (by omega) (by omega)]
theorem heal7 {k gr y : Int} (h3 : 0 ≤ y) (h4 : y < 100000) : fX7_heals k gr y = healS k gr y := by
  unfold fX7_heals healS
  rw [qrem_of h3 (by omega) (by omega)]
/-- what tree t of w grows, and whether its cuts lose depth -/
def grewW (w : Wv) (t : Nat) : Int := growS (w (4 + 3 * t)) (w (6 + 3 * t)) (w (5 + 3 * t)) (w 1)
def healW (w : Wv) (t : Nat) : Int := healS (w (4 + 3 * t)) (grewW w t) (w 1)
/-- a YEAR gone so far: girths of trees below a; depths of cuts of trees below T, and of T's cuts below C -/
def stepG (a T C : Int) (w : Wv) : Wv := fun k =>
  if k < 16 then (if 4 ≤ k ∧ (k - 4) % 3 = 1 ∧ (((k - 4) / 3 : Nat) : Int) < a then w k + grewW w ((k - 4) / 3) else w k)
  else if (k - 16) % 4 = 3 ∧ (((k - 16) / 4 : Nat) : Int) < w 3 ∧ (w (k - 3) < T ∨ (w (k - 3) = T ∧ (((k - 16) / 4 : Nat) : Int) < C)) ∧ healW w (w (k - 3)).toNat ≠ 0 ∧ 0 < w k then w k - 1 else w k
def stepW (w : Wv) : Wv := fun k => if k = 1 then w 1 + 1 else stepG (w 2) (w 2) 0 w k
theorem stepG_low (a T C : Int) (w : Wv) {k : Nat} (h : k < 4) : stepG a T C w k = w k := by
  unfold stepG
  rw [if_pos (by omega), if_neg (by omega)]
theorem stepG_kind (a T C : Int) (w : Wv) {t : Nat} (h : t < 4) : stepG a T C w (4 + 3 * t) = w (4 + 3 * t) := by
  unfold stepG
  rw [if_pos (by omega), if_neg (by omega)]
theorem stepG_sun (a T C : Int) (w : Wv) {t : Nat} (h : t < 4) : stepG a T C w (6 + 3 * t) = w (6 + 3 * t) := by
  unfold stepG
  rw [if_pos (by omega), if_neg (by omega)]
theorem stepG_girth (a T C : Int) (w : Wv) {t : Nat} (h : t < 4) : stepG a T C w (5 + 3 * t) = if (t : Int) < a then w (5 + 3 * t) + grewW w t else w (5 + 3 * t) := by
  unfold stepG
  rw [if_pos (by omega)]
  have e : (5 + 3 * t - 4) / 3 = t := by omega
  rw [e]
  by_cases hc : (t : Int) < a
  · rw [if_pos ⟨by omega, by omega, hc⟩, if_pos hc]
  · rw [if_neg (fun z => hc z.2.2), if_neg hc]
theorem stepG_cut (a T C : Int) (w : Wv) (c i : Nat) (h : i < 3) : stepG a T C w (16 + 4 * c + i) = w (16 + 4 * c + i) := by
  unfold stepG
  rw [if_neg (by omega), if_neg (by omega)]
theorem stepG_depth (a T C : Int) (w : Wv) (c : Nat) : stepG a T C w (19 + 4 * c) = if (c : Int) < w 3 ∧ (w (16 + 4 * c) < T ∨ (w (16 + 4 * c) = T ∧ (c : Int) < C)) ∧ healW w (w (16 + 4 * c)).toNat ≠ 0 ∧ 0 < w (19 + 4 * c) then w (19 + 4 * c) - 1 else w (19 + 4 * c) := by
  unfold stepG
  rw [if_neg (by omega)]
  have e1 : (19 + 4 * c - 16) / 4 = c := by omega
  have e2 : 19 + 4 * c - 3 = 16 + 4 * c := by omega
  rw [e1, e2]
  by_cases hc : (c : Int) < w 3 ∧ (w (16 + 4 * c) < T ∨ (w (16 + 4 * c) = T ∧ (c : Int) < C)) ∧ healW w (w (16 + 4 * c)).toNat ≠ 0 ∧ 0 < w (19 + 4 * c)
  · rw [if_pos ⟨by omega, hc⟩, if_pos hc]
  · rw [if_neg (fun z => hc z.2), if_neg hc]
theorem grewW_in {w : Wv} {Y : Int} (hw : WF Y w) {t : Nat} (ht : (t : Int) < w 2) : 0 ≤ grewW w t ∧ grewW w t ≤ 9 ∧ w (5 + 3 * t) + grewW w t ≤ 999 := by
  obtain ⟨-, h1, h2, h3, h4, -⟩ := hw
  obtain ⟨a1, a2, a3⟩ := h4 t ht
  exact growS_in a3.1 a3.2 a2.1 a2.2
theorem stepG_WF {w : Wv} {Y : Int} (hw : WF Y w) (a T C : Int) (ha : a ≤ w 2) : WF Y (stepG a T C w) := by
  have hg := fun {t : Nat} (ht : (t : Int) < w 2) => grewW_in hw ht
  obtain ⟨h0, h1, h2, h3, h4, h5⟩ := hw
  refine ⟨by rw [stepG_low a T C w (by omega)]; exact h0, by rw [stepG_low a T C w (by omega)]; exact h1, by rw [stepG_low a T C w (by omega)]; exact h2, by rw [stepG_low a T C w (by omega)]; exact h3, fun t ht => ?_, fun c hc => ?_⟩
  · rw [stepG_low a T C w (by omega)] at ht
    obtain ⟨a1, a2, a3⟩ := h4 t ht
    have g := hg ht
    rw [stepG_kind a T C w (by omega), stepG_sun a T C w (by omega), stepG_girth a T C w (by omega)]
    refine ⟨a1, ?_, a3⟩
    split <;> omega
  · rw [stepG_low a T C w (by omega)] at hc
    obtain ⟨a1, a2, a3, a4⟩ := h5 c hc
    have e0 := stepG_cut a T C w c 0 (by omega)
    have e1 := stepG_cut a T C w c 1 (by omega)
    have e2 := stepG_cut a T C w c 2 (by omega)
    rw [Nat.add_zero] at e0
    rw [show 16 + 4 * c + 1 = 17 + 4 * c by omega] at e1
    rw [show 16 + 4 * c + 2 = 18 + 4 * c by omega] at e2
    rw [e0, e1, e2, stepG_depth, stepG_low a T C w (by omega)]
    refine ⟨a1, a2, a3, ?_⟩
    split <;> omega
theorem stepW_1 (w : Wv) : stepW w 1 = w 1 + 1 := if_pos rfl
theorem stepW_ne (w : Wv) {k : Nat} (h : k ≠ 1) : stepW w k = stepG (w 2) (w 2) 0 w k := if_neg h
theorem stepW_WF {w : Wv} {Y : Int} (hw : WF Y w) : WF (Y + 1) (stepW w) := by
  have h := stepG_WF hw (w 2) (w 2) 0 (Int.le_refl _)
  have hy := hw.2.1
  obtain ⟨h0, h1, h2, h3, h4, h5⟩ := h
  refine ⟨by rw [stepW_ne w (by omega)]; exact h0, by rw [stepW_1]; omega, by rw [stepW_ne w (by omega)]; exact h2, by rw [stepW_ne w (by omega)]; exact h3, fun t ht => ?_, fun c hc => ?_⟩
  · rw [stepW_ne w (by omega)] at ht
    rw [stepW_ne w (by omega), stepW_ne w (by omega), stepW_ne w (by omega)]
    exact h4 t ht
  · rw [stepW_ne w (by omega)] at hc
    rw [stepW_ne w (by omega), stepW_ne w (by omega), stepW_ne w (by omega), stepW_ne w (by omega), stepW_ne w (by omega)]
    exact h5 c hc
