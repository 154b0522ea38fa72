/-! the easy ones -/
theorem tree6 {σ : Hp} {w : Wv} {j : Nat} (hR : RelW σ j w) {v : Int} : fX5_hasTree σ j v = 0 ↔ ¬ (0 ≤ v ∧ v < w 2) := by
  unfold fX5_hasTree
  rw [below_0, hR.2.2.2.1]
theorem cut6 {σ : Hp} {w : Wv} {j : Nat} (hR : RelW σ j w) {v : Int} : fX5_hasCut σ j v = 0 ↔ ¬ (0 ≤ v ∧ v < w 3) := by
  unfold fX5_hasCut
  rw [below_0, hR.2.2.2.2.1]
theorem tree7 {σ : Hp} {Y : Int} (hw : WF Y (σ 27 0)) {v : Int} : fX7_isTree σ v = 0 ↔ ¬ (0 ≤ v ∧ v < σ 27 0 2) := by
  have h2 := hw.2.2.1
  unfold fX7_isTree
  rw [in_0, wr_of (by omega) (by omega)]
  omega
theorem cut7_0 {σ : Hp} {Y : Int} (hw : WF Y (σ 27 0)) {v : Int} : fX7_isCut σ v = 0 ↔ ¬ (0 ≤ v ∧ v < σ 27 0 3) := by
  have h2 := hw.2.2.2.1
  unfold fX7_isCut
  rw [in_0, wr_of (by omega) (by omega)]
  omega
theorem wr4t {t : Nat} (h : t < 100) : wr (4 + wr (3 * (t : Int))) = ((4 + 3 * t : Nat) : Int) := by rw [wr_of (x := 3 * (t : Int)) (by omega) (by omega), wr_of (by omega) (by omega)]; omega
theorem wr16c {c : Nat} (h : c < 100) : wr (16 + wr (4 * (c : Int))) = ((16 + 4 * c : Nat) : Int) := by rw [wr_of (x := 4 * (c : Int)) (by omega) (by omega), wr_of (by omega) (by omega)]; omega
theorem wradd {a b : Nat} (h : a + b < 100000) : wr ((a : Int) + (b : Int)) = ((a + b : Nat) : Int) := by rw [wr_of (by omega) (by omega)]; omega
theorem ok_trace {σ : Hp} (h : Sim σ) {a : Int} : Ok (fun τ => fX6_trace τ a) (fun τ => fX7_trace τ a) σ := by
  obtain ⟨-, -, -, ⟨t1, t2, t3⟩, -⟩ := id h
  by_cases ha : 0 ≤ a ∧ a < σ 7 0 21
  · obtain ⟨k, rfl⟩ : ∃ k : Nat, a = k := ⟨a.toNat, by omega⟩
    refine Ok.same (r := σ 33 0 k) h ?_ ?_
    · simp only [fX6_trace]
      rw [if_neg (fun z => below_0.mp z (by omega)), gd_pos (by omega), Int.toNat_natCast, t3 k ha.2]
    · simp only [fX7_trace]
      rw [wr_of (by omega) (by omega), if_neg (in_1 (by omega)), gd_pos (by omega), Int.toNat_natCast]
  · refine Ok.same (r := -1000000) h ?_ ?_
    · simp only [fX6_trace]
      rw [if_pos (below_0.mpr (by omega))]
    · simp only [fX7_trace]
      rw [wr_of (by omega) (by omega), if_pos (in_0.mpr (by omega))]
theorem kindIn7 {σ : Hp} {t : Nat} (ht : t < 4) : fX7_kindIn σ t = some (σ 27 0 (4 + 3 * t), σ) := by
  unfold fX7_kindIn
  rw [wr4t (by omega), gd_pos (by omega), Int.toNat_natCast]
theorem ok_kind {σ : Hp} (h : Sim σ) {a : Int} : Ok (fun τ => fX6_kind τ a) (fun τ => fX7_kind τ a) σ := by
  obtain ⟨hR, hw⟩ := h.2.2.1.1
  have h2 := hw.2.2.1
  by_cases ha : 0 ≤ a ∧ a < σ 27 0 2
  · obtain ⟨t, rfl⟩ : ∃ k : Nat, a = k := ⟨a.toNat, by omega⟩
    refine Ok.same (r := σ 27 0 (4 + 3 * t)) h ?_ ?_
    · simp only [fX6_kind]
      rw [if_neg (fun z => (tree6 hR).mp z ha), gd_pos (by omega), Int.toNat_natCast, (hR.2.2.2.2.2.1 t ha.2).1]
    · simp only [fX7_kind]
      rw [if_neg (fun z => (tree7 hw).mp z ha), kindIn7 (by omega)]; rfl
  · refine Ok.same (r := -1000001) h ?_ ?_
    · simp only [fX6_kind]
      rw [if_pos ((tree6 hR).mpr ha)]
    · simp only [fX7_kind]
      rw [if_pos ((tree7 hw).mpr ha)]
theorem ok_cutHas {σ : Hp} (h : Sim σ) {a b : Int} : Ok (fun τ => fX6_cutHas τ a b) (fun τ => fX7_cutHas τ a b) σ := by
  obtain ⟨hR, hw⟩ := h.2.2.1.1
  have h2 := hw.2.2.2.1
  by_cases ha : 0 ≤ a ∧ a < σ 27 0 3
  case neg =>
    refine Ok.same (r := -1000001) h ?_ ?_
    · simp only [fX6_cutHas]
      rw [if_pos ((cut6 hR).mpr ha)]
    · simp only [fX7_cutHas]
      rw [if_pos ((cut7_0 hw).mpr ha)]
  obtain ⟨c, rfl⟩ : ∃ k : Nat, a = k := ⟨a.toNat, by omega⟩
  obtain ⟨q1, q2, q3, q4⟩ := hR.2.2.2.2.2.2 c ha.2
  by_cases hb : 0 ≤ b ∧ b ≤ 3
  case neg =>
    refine Ok.same (r := -1000001) h ?_ ?_
    · simp only [fX6_cutHas]
      rw [if_neg (fun z => (cut6 hR).mp z ha), if_neg (by omega), if_neg (by omega), if_neg (by omega), if_neg (by omega)]
    · simp only [fX7_cutHas]
      rw [if_neg (fun z => (cut7_0 hw).mp z ha), if_pos (in_0.mpr hb)]
  obtain ⟨i, rfl⟩ : ∃ k : Nat, b = k := ⟨b.toNat, by omega⟩
  refine Ok.same (r := σ 27 0 (16 + 4 * c + i)) h ?_ ?_
  · simp only [fX6_cutHas]
    rw [if_neg (fun z => (cut6 hR).mp z ha)]
    rcases (show i = 0 ∨ i = 1 ∨ i = 2 ∨ i = 3 by omega) with rfl | rfl | rfl | rfl
    · rw [if_pos (by omega), gd_pos (by omega), Int.toNat_natCast, q1, Nat.add_zero]
    · rw [if_neg (by omega), if_pos (by omega), gd_pos (by omega), Int.toNat_natCast, q2, show 16 + 4 * c + 1 = 17 + 4 * c by omega]
    · rw [if_neg (by omega), if_neg (by omega), if_pos (by omega), gd_pos (by omega), Int.toNat_natCast, q3, show 16 + 4 * c + 2 = 18 + 4 * c by omega]
    · rw [if_neg (by omega), if_neg (by omega), if_neg (by omega), if_pos (by omega), gd_pos (by omega), Int.toNat_natCast, q4, show 16 + 4 * c + 3 = 19 + 4 * c by omega]
  · simp only [fX7_cutHas]
    rw [if_neg (fun z => (cut7_0 hw).mp z ha), if_neg (in_1 hb), wr16c (by omega), wradd (by omega), gd_pos (by omega), Int.toNat_natCast]
