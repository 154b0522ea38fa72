/-! the asks' traces -/
def cN (σ : Hp) (v : Int) : Hp := if 16 ≤ σ 0 0 1 then σ else hup (hup σ 8 0 (σ 0 0 1).toNat v) 0 0 1 (σ 0 0 1 + 1)
def mN (σ : Hp) (v : Int) : Hp := if 16 ≤ σ 7 0 21 then σ else hup (hup σ 33 0 (σ 7 0 21).toNat v) 7 0 21 (σ 7 0 21 + 1)
def nC (σ : Hp) (L : List Int) : Hp := L.foldl cN σ
def nM (σ : Hp) (L : List Int) : Hp := L.foldl mN σ
theorem cN_s {σ : Hp} {v : Int} {s : Nat} (h0 : s ≠ 0) (h8 : s ≠ 8) : cN σ v s = σ s := by
  unfold cN
  split
  · rfl
  · rw [hup_s h0, hup_s h8]
theorem mN_s {σ : Hp} {v : Int} {s : Nat} (h7 : s ≠ 7) (h33 : s ≠ 33) : mN σ v s = σ s := by
  unfold mN
  split
  · rfl
  · rw [hup_s h7, hup_s h33]
theorem mN_7 {σ : Hp} {v : Int} {k : Nat} (h : k ≠ 21) : mN σ v 7 0 k = σ 7 0 k := by
  unfold mN
  split
  · rfl
  · rw [hup_k h, hup_s (by omega)]
theorem cN_0 {σ : Hp} {v : Int} (h : 0 ≤ σ 0 0 1 ∧ σ 0 0 1 ≤ 16) : 0 ≤ cN σ v 0 0 1 ∧ cN σ v 0 0 1 ≤ 16 := by
  unfold cN
  split
  · exact h
  · rw [hup_at]; omega
theorem mN_0 {σ : Hp} {v : Int} (h : 0 ≤ σ 7 0 21 ∧ σ 7 0 21 ≤ 16) : 0 ≤ mN σ v 7 0 21 ∧ mN σ v 7 0 21 ≤ 16 := by
  unfold mN
  split
  · exact h
  · rw [hup_at]; omega
theorem note_sp {σ : Hp} {v : Int} (h : 0 ≤ σ 0 0 1 ∧ σ 0 0 1 ≤ 16) : fX0_note σ v = some (0, cN σ v) := by
  unfold fX0_note cN
  split
  · rfl
  · rw [gd_pos (by omega)]
    simp only [sq]
    rw [hup_s (by omega), wr_of (by omega) (by omega)]
theorem begins_sp {σ : Hp} {v : Int} (h : 0 ≤ σ 7 0 21 ∧ σ 7 0 21 ≤ 16) : fX7_begins σ v = some (0, mN σ v) := by
  unfold fX7_begins mN
  split
  · rfl
  · rw [gd_pos (by omega)]
    simp only [sq]
    rw [hup_s (by omega), wr_of (by omega) (by omega)]
theorem hup_comm {σ : Hp} {s j k s' j' k' : Nat} {v v' : Int} (h : s ≠ s') : hup (hup σ s j k v) s' j' k' v' = hup (hup σ s' j' k' v') s j k v := by
  funext a b c
  simp only [hup]
  by_cases h1 : a = s' ∧ b = j' ∧ c = k'
  · rw [if_pos h1, if_neg (by omega), if_pos h1]
  · rw [if_neg h1]
    by_cases h2 : a = s ∧ b = j ∧ c = k
    · rw [if_pos h2, if_pos h2]
    · rw [if_neg h2, if_neg h2, if_neg h1]
theorem cN_hup {σ : Hp} {v v' : Int} {s j k : Nat} (h0 : s ≠ 0) (h8 : s ≠ 8) : hup (cN σ v) s j k v' = cN (hup σ s j k v') v := by
  unfold cN
  rw [hup_s (σ := σ) (s := s) (s' := 0) (fun z => h0 z.symm)]
  split
  · rfl
  · rw [hup_comm (s := 0) (s' := s) (fun z => h0 z.symm), hup_comm (s := 8) (s' := s) (fun z => h8 z.symm)]
theorem nC_hup {s j k : Nat} {v' : Int} (h0 : s ≠ 0) (h8 : s ≠ 8) : ∀ (L : List Int) (σ : Hp), hup (nC σ L) s j k v' = nC (hup σ s j k v') L := by
  intro L
  induction L with
  | nil => intro σ; rfl
  | cons v L ih =>
    intro σ
    show hup (nC (cN σ v) L) s j k v' = nC (cN (hup σ s j k v') v) L
    rw [ih, cN_hup h0 h8]
theorem nC_s {s : Nat} (h0 : s ≠ 0) (h8 : s ≠ 8) : ∀ (L : List Int) (σ : Hp), nC σ L s = σ s := by
  intro L
  induction L with
  | nil => intro σ; rfl
  | cons v L ih =>
    intro σ
    show nC (cN σ v) L s = σ s
    rw [ih, cN_s h0 h8]
theorem mN_nC (v : Int) (L : List Int) (σ : Hp) : mN (nC σ L) v = nC (mN σ v) L := by
  unfold mN
  rw [nC_s (s := 7) (by omega) (by omega)]
  split
  · rfl
  · rw [nC_hup (by omega) (by omega), nC_hup (by omega) (by omega)]
theorem SA.step {σ : Hp} {v : Int} (h : SA (σ 0 0 1) (σ 8 0) (σ 7 0 21) (σ 33 0)) : SA (mN (cN σ v) v 0 0 1) (mN (cN σ v) v 8 0) (mN (cN σ v) v 7 0 21) (mN (cN σ v) v 33 0) := by
  obtain ⟨h1, h2, h3⟩ := h
  rw [mN_s (s := 0) (by omega) (by omega), mN_s (s := 8) (by omega) (by omega)]
  unfold mN cN
  by_cases q : 16 ≤ σ 7 0 21
  · rw [if_pos (show 16 ≤ σ 0 0 1 by omega), if_pos q]
    exact ⟨h1, h2, h3⟩
  · rw [if_neg (show ¬ 16 ≤ σ 0 0 1 by omega)]
    simp (disch := omega) only [hup_s, hup_at]
    rw [if_neg q]
    simp (disch := omega) only [hup_s, hup_at]
    refine ⟨by omega, by omega, fun k hk => ?_⟩
    rw [h1]
    by_cases e : k = (σ 7 0 21).toNat
    · subst e; rw [hup_at, hup_at]
    · simp (disch := omega) only [hup_k, hup_s]
      exact h3 k (by omega)
theorem Sim.notes1 {σ : Hp} (h : Sim σ) (v : Int) : Sim (mN (cN σ v) v) := by
  obtain ⟨a1, a2, a3, a4, a5, a6, a7⟩ := h
  have e : ∀ s, s ≠ 0 → s ≠ 8 → s ≠ 7 → s ≠ 33 → mN (cN σ v) v s = σ s := fun s h0 h8 h7 h33 => by rw [mN_s h7 h33, cN_s h0 h8]
  have e7 : ∀ k, k ≠ 21 → mN (cN σ v) v 7 0 k = σ 7 0 k := fun k hk => by rw [mN_7 hk, cN_s (by omega) (by omega)]
  unfold Sim
  rw [e 3 (by omega) (by omega) (by omega) (by omega), e 11 (by omega) (by omega) (by omega) (by omega), e 22 (by omega) (by omega) (by omega) (by omega), e 23 (by omega) (by omega) (by omega) (by omega), e 24 (by omega) (by omega) (by omega) (by omega), e 12 (by omega) (by omega) (by omega) (by omega), e 4 (by omega) (by omega) (by omega) (by omega), e 26 (by omega) (by omega) (by omega) (by omega), e 6 (by omega) (by omega) (by omega) (by omega), e7 4 (by omega), e7 6 (by omega), e7 7 (by omega)]
  refine ⟨a1, a2, a3.cg (fun s j hs hj => by rw [e s (by rcases hs with q | q <;> omega) (by rcases hs with q | q <;> omega) (by rcases hs with q | q <;> omega) (by rcases hs with q | q <;> omega)]) (by rw [e 27 (by omega) (by omega) (by omega) (by omega)]) (by rw [e 1 (by omega) (by omega) (by omega) (by omega)]) (by rw [e 1 (by omega) (by omega) (by omega) (by omega)]) (by rw [e 29 (by omega) (by omega) (by omega) (by omega)]) (e7 16 (by omega)) (by rw [e 31 (by omega) (by omega) (by omega) (by omega)]) (by rw [e 30 (by omega) (by omega) (by omega) (by omega)]), a4.step, a5, a6, a7.cg (fun j hj => by rw [e 5 (by omega) (by omega) (by omega) (by omega)]) (by rw [e 5 (by omega) (by omega) (by omega) (by omega)]; exact a7 1 (by omega))⟩
theorem Sim.notes : ∀ (L : List Int) (σ : Hp), Sim σ → Sim (nM (nC σ L) L) := by
  intro L
  induction L with
  | nil => intro σ h; exact h
  | cons v L ih =>
    intro σ h
    show Sim (nM (mN (nC (cN σ v) L) v) L)
    rw [mN_nC]
    exact ih _ (h.notes1 v)
theorem Sim.none {σ : Hp} (h : Sim σ) : Sim (hup (hup σ 0 0 1 0) 7 0 21 0) := by
  obtain ⟨a1, a2, a3, a4, a5, a6, a7⟩ := h
  have e : ∀ s, s ≠ 0 → s ≠ 7 → hup (hup σ 0 0 1 0) 7 0 21 0 s = σ s := fun s h1 h2 => by rw [hup_s h2, hup_s h1]
  have e7 : ∀ k, k ≠ 21 → hup (hup σ 0 0 1 0) 7 0 21 0 7 0 k = σ 7 0 k := fun k hk => by rw [hup_k hk, hup_s (by omega)]
  unfold Sim
  rw [e 3 (by omega) (by omega), e 11 (by omega) (by omega), e 22 (by omega) (by omega), e 23 (by omega) (by omega), e 24 (by omega) (by omega), e 12 (by omega) (by omega), e 4 (by omega) (by omega), e 26 (by omega) (by omega), e 8 (by omega) (by omega), e 33 (by omega) (by omega), e 6 (by omega) (by omega), e7 4 (by omega), e7 6 (by omega), e7 7 (by omega)]
  refine ⟨a1, a2, a3.cg (fun s j hs hj => by rw [e s (by rcases hs with q | q <;> omega) (by rcases hs with q | q <;> omega)]) (by rw [e 27 (by omega) (by omega)]) (by rw [e 1 (by omega) (by omega)]) (by rw [e 1 (by omega) (by omega)]) (by rw [e 29 (by omega) (by omega)]) (e7 16 (by omega)) (by rw [e 31 (by omega) (by omega)]) (by rw [e 30 (by omega) (by omega)]), ?_, a5, a6, a7.cg (fun j hj => by rw [e 5 (by omega) (by omega)]) (by rw [e 5 (by omega) (by omega)]; exact a7 1 (by omega))⟩
  rw [hup_at, hup_s (by omega), hup_at]
  exact ⟨rfl, by omega, fun k hk => by omega⟩
