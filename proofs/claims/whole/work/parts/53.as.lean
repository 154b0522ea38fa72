/-! asks -/
def ofK (k v : Int) : Int := if v = 0 ∨ v = k ∨ (v = 1 ∧ k < 4) ∨ (v = 4 ∧ k = 5) then 1 else 0
theorem isOf6 (σ : Hp) {k v : Int} (hk : 1 ≤ k ∧ k ≤ 5) (hv : 0 ≤ v ∧ v ≤ 5) : fX6_isOfKind σ k v = some (ofK k v, σ) := by
  unfold fX6_isOfKind
  obtain ⟨n, hn⟩ : ∃ n, FU = n + 1 + 1 + 1 + 1 + 1 := ⟨FU - 5, by rw [FU_eq]⟩
  rw [hn]
  have t1 : isToo 1 = 0 := rfl
  have t2 : isToo 2 = 1 := rfl
  have t3 : isToo 3 = 1 := rfl
  have t4 : isToo 4 = 0 := rfl
  have t5 : isToo 5 = 4 := rfl
  have t0 : isToo 0 = -1 := rfl
  have w1 : wr 1 = 1 := wr_of (by omega) (by omega)
  have w2 : wr 2 = 2 := wr_of (by omega) (by omega)
  have w3 : wr 3 = 3 := wr_of (by omega) (by omega)
  have hk' : k = 1 ∨ k = 2 ∨ k = 3 ∨ k = 4 ∨ k = 5 := by omega
  have hv' : v = 0 ∨ v = 1 ∨ v = 2 ∨ v = 3 ∨ v = 4 ∨ v = 5 := by omega
  rcases hk' with rfl | rfl | rfl | rfl | rfl <;> rcases hv' with rfl | rfl | rfl | rfl | rfl | rfl <;>
    simp [lX6_isOfKind_4_e0, gd, t0, t1, t2, t3, t4, t5, w1, w2, w3, ofK]
theorem as60 {σ : Hp} {a w0 : Int} : jX7_as_60 σ a w0 = if w0 = 0 then fX7_found σ 3 else fX7_well σ a := by
  unfold jX7_as_60
  split
  · unfold fX7_found; rfl
  · unfold fX7_well; rfl
theorem Ok.well {f g : Hp → Option (Int × Hp)} {σ : Hp} {v : Int} (h : Sim σ) (h1 : f σ = fX6_foundNothing σ v) (h2 : ∀ τ : Hp, τ = hup σ 6 0 9 0 → g τ = fX7_well τ v) : Ok f g σ := by
  refine ⟨v, hup σ 6 0 9 0, sta σ 0, ?_, ?_, h.sta 0⟩
  · rw [h1]; rfl
  · rw [h2 _ rfl]; rfl
theorem ok_as {σ : Hp} (h : Sim σ) {a b : Int} : Ok (fun τ => fX6_as τ a b) (fun τ => fX7_as τ a b) σ := by
  obtain ⟨hR, hw⟩ := h.2.2.1.1
  have h2 := hw.2.2.1
  by_cases ha : 0 ≤ a ∧ a < σ 27 0 2
  case neg =>
    refine Ok.same (r := -1000001) h ?_ ?_
    · simp only [fX6_as]
      rw [if_pos ((tree6 hR).mpr ha)]
    · simp only [fX7_as]
      rw [if_pos ((tree7 hw).mpr ha)]
  by_cases hb : 0 ≤ b ∧ b ≤ 5
  case neg =>
    refine Ok.same (r := -1000001) h ?_ ?_
    · simp only [fX6_as]
      rw [if_neg (fun z => (tree6 hR).mp z ha), if_pos (below_0.mpr (by omega))]
    · simp only [fX7_as]
      rw [if_neg (fun z => (tree7 hw).mp z ha), if_pos (in_0.mpr (by omega))]
  obtain ⟨t, rfl⟩ : ∃ k : Nat, a = k := ⟨a.toNat, by omega⟩
  have ek := (hR.2.2.2.2.2.1 t ha.2).1
  have hk := (hw.2.2.2.2.1 t ha.2).1
  have f6 : fX6_as σ t b = if ofK (σ 27 0 (4 + 3 * t)) b = 0 then fX6_found σ 3 else fX6_foundNothing σ t := by
    unfold fX6_as
    rw [if_neg (fun z => (tree6 hR).mp z ha), if_neg (fun z => below_0.mp z (by omega)), gd_pos (by omega), Int.toNat_natCast, ek, isOf6 σ (by omega) hb, cl_pos]
    by_cases q : ofK (σ 27 0 (4 + 3 * t)) b = 0
    · rw [if_pos q, if_pos q]; rfl
    · rw [if_neg q, if_neg q]; rfl
  have f7 : ∀ τ : Hp, τ 27 0 = σ 27 0 → fX7_as τ t b = if ofK (σ 27 0 (4 + 3 * t)) b = 0 then fX7_found τ 3 else fX7_well τ t := by
    intro τ hτ
    unfold fX7_as
    rw [if_neg (fun z => (tree7 (σ := τ) (by rw [hτ]; exact hw)).mp z (by rw [hτ]; exact ha)), if_neg (in_1 (by omega)), kindIn7 (by omega), cl_pos, hτ]
    unfold jX7_as_45 ofK
    simp only [as60]
    generalize σ 27 0 (4 + 3 * t) = k
    by_cases q0 : b = 0
    · simp [q0]
    by_cases q1 : b = k
    · simp [q0, q1]
    by_cases q2 : b = 1
    · by_cases q3 : k < 4 <;> simp [q0, q1, q2, q3] <;> omega
    by_cases q3 : b = 4
    · by_cases q4 : k = 5 <;> simp [q0, q1, q2, q3, q4] <;> omega
    · simp [q0, q1, q2, q3]
  by_cases q : ofK (σ 27 0 (4 + 3 * t)) b = 0
  · exact Ok.found (v := 3) h (by omega) (by rw [f6, if_pos q]) (fun τ hτ => by rw [f7 τ (by rw [hτ, hup_s (by omega)]), if_pos q])
  · exact Ok.well (v := t) h (by rw [f6, if_neg q]) (fun τ hτ => by rw [f7 τ (by rw [hτ, hup_s (by omega)]), if_neg q])
