/-! ask -/
def askV (k g su t b : Int) : Int := if k < 4 then (if b = 0 then szB k g su t else mkB k g t) else (if b = 0 then szP k su else t - szP k su)
def askL (k b : Int) : List Int := if k < 4 then (if b = 0 then szM k else mkL k) else (if b = 0 then szL k else [23, 20] ++ szL k)
theorem szP_in {k su : Int} (hs : 0 ≤ su ∧ su ≤ 9) : -1000 ≤ szP k su ∧ szP k su ≤ 1000 := by
  unfold szP
  split <;> omega
theorem ofK1 {k : Int} (hk : 1 ≤ k ∧ k ≤ 5) : ofK k 1 = 0 ↔ ¬ k < 4 := by
  unfold ofK
  split <;> omega
theorem ask6 {σ : Hp} {t : Nat} {b : Int} (ht : t < 4) (hk : 1 ≤ σ 13 0 t ∧ σ 13 0 t ≤ 5) (hs : 0 ≤ σ 15 0 t ∧ σ 15 0 t ≤ 9) (hg : 0 ≤ σ 14 0 t ∧ σ 14 0 t ≤ 999) (h : 0 ≤ σ 0 0 1 ∧ σ 0 0 1 ≤ 16) :
    (if b = 0 then fX0_sizeOf σ 0 t else fX0_markOf σ 0 t) = some (askV (σ 13 0 t) (σ 14 0 t) (σ 15 0 t) t b, nC σ (askL (σ 13 0 t) b)) := by
  have hp := szP_in (k := σ 13 0 t) hs
  have w1 : wr (t - szP (σ 13 0 t) (σ 15 0 t)) = t - szP (σ 13 0 t) (σ 15 0 t) := wr_of (by omega) (by omega)
  unfold fX0_sizeOf fX0_markOf askV askL
  rw [gd_pos (by omega), gd_pos (by omega), Int.toNat_natCast, isOf6 σ hk (by omega), cl_pos, cl_pos]
  by_cases q : σ 13 0 t < 4
  · rw [if_neg (fun z => (ofK1 hk).mp z q), if_neg (fun z => (ofK1 hk).mp z q), if_pos q, if_pos q]
    by_cases qb : b = 0
    · rw [if_pos qb, if_pos qb, if_pos qb, szB6 ht h hs hg]; rfl
    · rw [if_neg qb, if_neg qb, if_neg qb, mkB6 ht h hg]; rfl
  · rw [if_pos ((ofK1 hk).mpr q), if_pos ((ofK1 hk).mpr q), if_neg q, if_neg q]
    by_cases qb : b = 0
    · rw [if_pos qb, if_pos qb, if_pos qb, szP6 ht h hs]; rfl
    · rw [if_neg qb, if_neg qb, if_neg qb, note_sp h, cl_pos, note_sp (cN_0 h), cl_pos, szP6 ht (cN_0 (cN_0 h)) (by simp (disch := omega) only [cN_s]; exact hs), cl_pos]
      simp (disch := omega) only [cN_s, w1]
      rfl
theorem ask7 {σ : Hp} {t : Nat} {b : Int} (ht : t < 4) (hk : 1 ≤ σ 27 0 (4 + 3 * t) ∧ σ 27 0 (4 + 3 * t) ≤ 5) (hs : 0 ≤ σ 27 0 (6 + 3 * t) ∧ σ 27 0 (6 + 3 * t) ≤ 9) (hg : 0 ≤ σ 27 0 (5 + 3 * t) ∧ σ 27 0 (5 + 3 * t) ≤ 999) (h : 0 ≤ σ 7 0 21 ∧ σ 7 0 21 ≤ 16) :
    (if σ 27 0 (4 + 3 * t) < 4 then jX7_ask_39 σ t b 0 else jX7_ask_39 σ t b 1) = some (askV (σ 27 0 (4 + 3 * t)) (σ 27 0 (5 + 3 * t)) (σ 27 0 (6 + 3 * t)) t b, nM σ (askL (σ 27 0 (4 + 3 * t)) b)) := by
  have hp := szP_in (k := σ 27 0 (4 + 3 * t)) hs
  have w1 : wr (t - szP (σ 27 0 (4 + 3 * t)) (σ 27 0 (6 + 3 * t))) = t - szP (σ 27 0 (4 + 3 * t)) (σ 27 0 (6 + 3 * t)) := wr_of (by omega) (by omega)
  unfold jX7_ask_39 askV askL
  by_cases q : σ 27 0 (4 + 3 * t) < 4
  · rw [if_pos q, if_pos q, if_pos q]
    by_cases qb : b = 0
    · rw [if_pos qb, if_pos qb, if_pos qb, if_pos rfl, szB7 ht (by omega) h hs hg]; rfl
    · rw [if_neg qb, if_neg qb, if_neg qb, if_pos rfl, mkB7 ht (by omega) h hg]; rfl
  · rw [if_neg q, if_neg q, if_neg q]
    by_cases qb : b = 0
    · rw [if_pos qb, if_pos qb, if_pos qb, if_neg (by omega), szP7 ht h hs]; rfl
    · rw [if_neg qb, if_neg qb, if_neg qb, if_neg (by omega)]
      unfold fX7_pineMark
      rw [begins_sp h, cl_pos, begins_sp (mN_0 h), cl_pos, szP7 ht (mN_0 (mN_0 h)) (by simp (disch := omega) only [mN_s]; exact hs), cl_pos]
      simp (disch := omega) only [mN_s, w1]
      rfl
theorem ok_ask {σ : Hp} (h : Sim σ) {a b : Int} : Ok (fun τ => fX6_ask τ a b) (fun τ => fX7_ask τ a b) σ := by
  obtain ⟨hR, hw⟩ := h.2.2.1.1
  have h2 := hw.2.2.1
  by_cases ha : 0 ≤ a ∧ a < σ 27 0 2
  case neg =>
    refine Ok.same (r := -1000001) h ?_ ?_
    · simp only [fX6_ask]
      rw [if_pos ((tree6 hR).mpr ha)]
    · simp only [fX7_ask]
      rw [if_pos ((tree7 hw).mpr ha)]
  by_cases hb : 0 ≤ b ∧ b ≤ 1
  case neg =>
    refine Ok.same (r := -1000001) h ?_ ?_
    · simp only [fX6_ask]
      rw [if_neg (fun z => (tree6 hR).mp z ha), if_pos (choice6_0.mpr hb)]
    · simp only [fX7_ask]
      rw [if_neg (fun z => (tree7 hw).mp z ha), if_pos (in_0.mpr hb)]
  obtain ⟨t, rfl⟩ : ∃ k : Nat, a = k := ⟨a.toNat, by omega⟩
  obtain ⟨ek, eg, es⟩ := hR.2.2.2.2.2.1 t ha.2
  obtain ⟨hk, hg, hs⟩ := hw.2.2.2.2.1 t ha.2
  have ht : t < 4 := by omega
  obtain ⟨τ, hτ⟩ : ∃ τ, τ = hup σ 0 0 1 0 := ⟨_, rfl⟩
  have e6 := ask6 (σ := τ) (b := b) ht (by rw [hτ, hup_s (by omega), ek]; exact hk) (by rw [hτ, hup_s (by omega), es]; exact hs) (by rw [hτ, hup_s (by omega), eg]; exact hg) (by rw [hτ, hup_at]; omega)
  rw [show τ 13 = σ 13 by rw [hτ, hup_s (by omega)], show τ 14 = σ 14 by rw [hτ, hup_s (by omega)], show τ 15 = σ 15 by rw [hτ, hup_s (by omega)], ek, eg, es] at e6
  obtain ⟨L, hL⟩ : ∃ L, L = askL (σ 27 0 (4 + 3 * t)) b := ⟨_, rfl⟩
  rw [← hL] at e6
  obtain ⟨υ, hυ⟩ : ∃ υ, υ = hup (nC τ L) 7 0 21 0 := ⟨_, rfl⟩
  have u27 : υ 27 = σ 27 := by rw [hυ, hup_s (by omega), nC_s (by omega) (by omega), hτ, hup_s (by omega)]
  have e7 := ask7 (σ := υ) (b := b) ht (by rw [u27]; exact hk) (by rw [u27]; exact hs) (by rw [u27]; exact hg) (by rw [hυ, hup_at]; omega)
  rw [u27, ← hL] at e7
  refine ⟨askV (σ 27 0 (4 + 3 * t)) (σ 27 0 (5 + 3 * t)) (σ 27 0 (6 + 3 * t)) t b, nC τ L, nM υ L, ?_, ?_, ?_⟩
  · simp only [fX6_ask]
    rw [if_neg (fun z => (tree6 hR).mp z ha), if_neg (fun z => choice6_0.mp z hb)]
    simp only [sq]
    rw [← hτ, ← e6]
    split
    · cases fX0_sizeOf τ 0 t <;> rfl
    · cases fX0_markOf τ 0 t <;> rfl
  · have n27 : nC τ L 27 = σ 27 := by rw [nC_s (by omega) (by omega), hτ, hup_s (by omega)]
    simp only [fX7_ask]
    rw [if_neg (fun z => (tree7 (σ := nC τ L) (by rw [n27]; exact hw)).mp z (by rw [n27]; exact ha)), if_neg (in_1 hb)]
    simp only [sq]
    rw [← hυ, kindIn7 ht, cl_pos, u27]
    exact e7
  · rw [hυ, nC_hup (by omega) (by omega), hτ]
    exact Sim.notes L _ h.none
