/-! the pure layer: facts on the printed functions; simple arithmetic -/
theorem wr_iff {x y : Int} (h1 : -2147483648 ≤ x) (h2 : x < 2147483648) : wr x = y ↔ x = y := by rw [wr_of h1 h2]
theorem qdiv_of {x y : Int} (hx : 0 ≤ x) (hy : 0 < y) (h2 : x < 2147483648) : qdiv x y = x / y := by
  unfold qdiv
  rw [Int.tdiv_eq_ediv_of_nonneg hx]
  have h3 : 0 ≤ x / y := Int.ediv_nonneg hx (by omega)
  have h4 : x / y ≤ x := Int.ediv_le_self y hx
  exact wr_of (by omega) (by omega)
theorem qrem_of {x y : Int} (hx : 0 ≤ x) (hy : 0 < y) (h2 : x < 2147483648) : qrem x y = x % y := by
  unfold qrem
  rw [Int.tdiv_eq_ediv_of_nonneg hx]
  have h3 : 0 ≤ x % y := Int.emod_nonneg x (by omega)
  have h5 : x - x / y * y = x % y := by rw [Int.emod_def, Int.mul_comm]
  have h6 : 0 ≤ x / y * y := Int.mul_nonneg (Int.ediv_nonneg hx (by omega)) (by omega)
  have h4 : x % y ≤ x := by omega
  rw [h5]
  exact wr_of (by omega) (by omega)
/-- reading behind a write -/
theorem hup_at (σ : Hp) (s j k : Nat) (v : Int) : hup σ s j k v s j k = v := if_pos ⟨rfl, rfl, rfl⟩
theorem hup_s {σ : Hp} {s j k s' : Nat} {v : Int} (h : s' ≠ s) : hup σ s j k v s' = σ s' := by
  funext j' k'
  exact if_neg (fun z => h z.1)
theorem hup_j {σ : Hp} {s j k s' j' : Nat} {v : Int} (h : j' ≠ j) : hup σ s j k v s' j' = σ s' j' := by
  funext k'
  exact if_neg (fun z => h z.2.1)
theorem hup_k {σ : Hp} {s j k s' j' k' : Nat} {v : Int} (h : k' ≠ k) : hup σ s j k v s' j' k' = σ s' j' k' := if_neg (fun z => h z.2.2)
theorem hcp_s {σ : Hp} {s j sp s2 j2 dp n s' : Nat} (h : s' ≠ s2) : hcp σ s j sp s2 j2 dp n s' = σ s' := by
  funext j' k'
  exact if_neg (fun z => h z.1.1)
theorem hcp_j {σ : Hp} {s j sp s2 j2 dp n s' j' : Nat} (h : j' ≠ j2) : hcp σ s j sp s2 j2 dp n s' j' = σ s' j' := by
  funext k'
  exact if_neg (fun z => h z.1.2)
theorem hcp_in {σ : Hp} {s j sp s2 j2 dp n k : Nat} (h1 : dp ≤ k) (h2 : k < dp + n) : hcp σ s j sp s2 j2 dp n s2 j2 k = σ s j (sp + (k - dp)) := if_pos ⟨⟨rfl, rfl⟩, h1, h2⟩
theorem hcp_out {σ : Hp} {s j sp s2 j2 dp n s' j' k : Nat} (h : k < dp ∨ dp + n ≤ k) : hcp σ s j sp s2 j2 dp n s' j' k = σ s' j' k := if_neg (fun z => by omega)
/-- the small functions of both sides -/
theorem in_eq (v a b : Int) : fX7_in v a b = if a ≤ v ∧ v ≤ b then 1 else 0 := by
  unfold fX7_in
  repeat' split
  all_goals first | rfl | omega
theorem in_0 {v a b : Int} : fX7_in v a b = 0 ↔ ¬ (a ≤ v ∧ v ≤ b) := by
  rw [in_eq]
  split <;> simp_all
theorem in_1 {v a b : Int} (h : a ≤ v ∧ v ≤ b) : ¬ fX7_in v a b = 0 := fun z => in_0.mp z h
theorem below_eq (v n : Int) : fX6_isBelow v n = if 0 ≤ v ∧ v < n then 1 else 0 := by
  unfold fX6_isBelow
  repeat' split
  all_goals first | rfl | omega
theorem below_0 {v n : Int} : fX6_isBelow v n = 0 ↔ ¬ (0 ≤ v ∧ v < n) := by
  rw [below_eq]
  split <;> simp_all
theorem row6_0 {v : Int} : fX6_isRow v = 0 ↔ ¬ (0 ≤ v ∧ v < 8) := by
  unfold fX6_isRow
  exact below_0
theorem row7_0 {v : Int} : fX7_isRow v = 0 ↔ ¬ (0 ≤ v ∧ v < 8) := by
  unfold fX7_isRow
  rw [in_0]
  omega
theorem depth6_0 {v : Int} : fX6_isDepth v = 0 ↔ ¬ (1 ≤ v ∧ v ≤ 20) := by
  unfold fX6_isDepth
  repeat' split
  all_goals omega
theorem told6_0 {v : Int} : fX6_isTold v = 0 ↔ ¬ (1 ≤ v ∧ v ≤ 16) := by
  unfold fX6_isTold
  repeat' split
  all_goals omega
theorem fore6_0 {v : Int} : fX6_isForetold v = 0 ↔ ¬ (0 ≤ v ∧ v ≤ 50) := by
  unfold fX6_isForetold
  rw [below_0]
  omega
theorem far7_0 {v : Int} : fX7_isFar v = 0 ↔ ¬ (0 ≤ v ∧ v ≤ 50) := by
  unfold fX7_isFar
  rw [in_0]
theorem choice6_0 {v : Int} : fX6_isChoice v = 0 ↔ ¬ (0 ≤ v ∧ v ≤ 1) := by
  unfold fX6_isChoice
  rw [below_0]
  omega
/-! a wood, flat, as the model has it: 0 wide, 1 year, 2 trees, 3 cuts, 4+3t kind girth sun, 16+4c tree letter place depth -/
abbrev Wv : Type := Nat → Int
def WF (Y : Int) (w : Wv) : Prop :=
  (0 ≤ w 0 ∧ w 0 ≤ 9) ∧ (0 ≤ w 1 ∧ w 1 ≤ Y) ∧ (0 ≤ w 2 ∧ w 2 ≤ 4) ∧ (0 ≤ w 3 ∧ w 3 ≤ 8) ∧
  (∀ t : Nat, (t : Int) < w 2 → (1 ≤ w (4 + 3 * t) ∧ w (4 + 3 * t) ≤ 5) ∧ (0 ≤ w (5 + 3 * t) ∧ w (5 + 3 * t) ≤ 999) ∧ (0 ≤ w (6 + 3 * t) ∧ w (6 + 3 * t) ≤ 9)) ∧
  (∀ c : Nat, (c : Int) < w 3 → (0 ≤ w (16 + 4 * c) ∧ w (16 + 4 * c) < w 2) ∧ (0 ≤ w (17 + 4 * c) ∧ w (17 + 4 * c) ≤ 25) ∧ (0 ≤ w (18 + 4 * c) ∧ w (18 + 4 * c) ≤ 59) ∧ (0 ≤ w (19 + 4 * c) ∧ w (19 + 4 * c) ≤ 20))
/-- wood j of the class is w -/
def RelW (σ : Hp) (j : Nat) (w : Wv) : Prop :=
  σ 5 j 7 = (if 0 < w 0 then 1 else 0) ∧ σ 5 j 8 = w 0 ∧ σ 5 j 9 = w 1 ∧ σ 5 j 10 = w 2 ∧ σ 5 j 11 = w 3 ∧
  (∀ t : Nat, (t : Int) < w 2 → σ 13 j t = w (4 + 3 * t) ∧ σ 14 j t = w (5 + 3 * t) ∧ σ 15 j t = w (6 + 3 * t)) ∧
  (∀ c : Nat, (c : Int) < w 3 → σ 16 j c = w (16 + 4 * c) ∧ σ 17 j c = w (17 + 4 * c) ∧ σ 18 j c = w (18 + 4 * c) ∧ σ 19 j c = w (19 + 4 * c))
/-- the cells of the class' wood j -/
def isW (s : Nat) : Prop := s = 5 ∨ (13 ≤ s ∧ s ≤ 19)
theorem RelW.cg {σ σ' : Hp} {j : Nat} {w : Wv} (h : RelW σ j w) (h5 : ∀ s, isW s → σ' s j = σ s j) : RelW σ' j w := by
  obtain ⟨a1, a2, a3, a4, a5, a6, a7⟩ := h
  have e5 := h5 5 (Or.inl rfl)
  have e13 := h5 13 (Or.inr (by omega))
  have e14 := h5 14 (Or.inr (by omega))
  have e15 := h5 15 (Or.inr (by omega))
  have e16 := h5 16 (Or.inr (by omega))
  have e17 := h5 17 (Or.inr (by omega))
  have e18 := h5 18 (Or.inr (by omega))
  have e19 := h5 19 (Or.inr (by omega))
  unfold RelW
  rw [e5, e13, e14, e15, e16, e17, e18, e19]
  exact ⟨a1, a2, a3, a4, a5, a6, a7⟩
/-- become: the wood j1 is copied to j0 -/
theorem become_sp {σ : Hp} {j0 j1 : Nat} (hz : σ 5 j1 7 = 0 ∨ σ 5 j1 7 = 1) : ∃ σ', fX5_become σ j0 j1 = some (0, σ') ∧ (∀ s j, ¬ (isW s ∧ j = j0) → σ' s j = σ s j) ∧
    (∀ k, 7 ≤ k → k ≤ 11 → σ' 5 j0 k = σ 5 j1 k) ∧ (∀ k, k < 4 → σ' 13 j0 k = σ 13 j1 k ∧ σ' 14 j0 k = σ 14 j1 k ∧ σ' 15 j0 k = σ 15 j1 k) ∧
    (∀ k, k < 8 → σ' 16 j0 k = σ 16 j1 k ∧ σ' 17 j0 k = σ 17 j1 k ∧ σ' 18 j0 k = σ 18 j1 k ∧ σ' 19 j0 k = σ 19 j1 k) := by
  unfold fX5_become
  rw [gd_pos hz]
  simp only [sq]
  refine ⟨_, rfl, ?_, ?_, ?_, ?_⟩
  · intro s j h
    have hs : ∀ a, isW a → ¬ (s = a ∧ j = j0) := fun a ha z => h ⟨z.1 ▸ ha, z.2⟩
    funext k
    simp only [hcp, hup]
    rw [if_neg (fun z => hs 19 (Or.inr (by omega)) z.1), if_neg (fun z => hs 18 (Or.inr (by omega)) z.1), if_neg (fun z => hs 17 (Or.inr (by omega)) z.1), if_neg (fun z => hs 16 (Or.inr (by omega)) z.1), if_neg (fun z => hs 15 (Or.inr (by omega)) z.1), if_neg (fun z => hs 14 (Or.inr (by omega)) z.1), if_neg (fun z => hs 13 (Or.inr (by omega)) z.1), if_neg (fun z => hs 5 (Or.inl rfl) ⟨z.1, z.2.1⟩), if_neg (fun z => hs 5 (Or.inl rfl) ⟨z.1, z.2.1⟩), if_neg (fun z => hs 5 (Or.inl rfl) ⟨z.1, z.2.1⟩), if_neg (fun z => hs 5 (Or.inl rfl) ⟨z.1, z.2.1⟩), if_neg (fun z => hs 5 (Or.inl rfl) ⟨z.1, z.2.1⟩)]
  · intro k h1 h2
    rcases (show k = 7 ∨ k = 8 ∨ k = 9 ∨ k = 10 ∨ k = 11 by omega) with rfl | rfl | rfl | rfl | rfl <;> simp [hcp, hup]
  · intro k hk
    refine ⟨?_, ?_, ?_⟩ <;> simp [hcp, hup, hk]
  · intro k hk
    refine ⟨?_, ?_, ?_, ?_⟩ <;> simp [hcp, hup, hk]
theorem RelW.told {σ : Hp} {j : Nat} {w : Wv} (h : RelW σ j w) : σ 5 j 7 = 0 ∨ σ 5 j 7 = 1 := by
  rw [h.1]
  split <;> simp
theorem become_rel {σ : Hp} {j0 j1 : Nat} {w : Wv} {Y : Int} (h : RelW σ j1 w) (hw : WF Y w) : ∃ σ', fX5_become σ j0 j1 = some (0, σ') ∧ (∀ s j, ¬ (isW s ∧ j = j0) → σ' s j = σ s j) ∧ RelW σ' j0 w := by
  obtain ⟨σ', e, h1, h2, h3, h4⟩ := become_sp (j0 := j0) h.told
  refine ⟨σ', e, h1, ?_⟩
  obtain ⟨a1, a2, a3, a4, a5, a6, a7⟩ := h
  have b2 := hw.2.2.1.2
  have b3 := hw.2.2.2.1.2
  refine ⟨by rw [h2 7 (by omega) (by omega), a1], by rw [h2 8 (by omega) (by omega), a2], by rw [h2 9 (by omega) (by omega), a3], by rw [h2 10 (by omega) (by omega), a4], by rw [h2 11 (by omega) (by omega), a5], fun t ht => ?_, fun c hc => ?_⟩
  · have := h3 t (by omega)
    have := a6 t ht
    omega
  · have := h4 c (by omega)
    have := a7 c hc
    omega
