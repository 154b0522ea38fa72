/-! the two states in one heap agree -/
def SR (a3 a11 : Nat → Nat → Int) (ln mn it : Nat → Int) : Prop := ∀ r, r < 8 → (ln r = -1000000 ∧ a3 r 1 = 0) ∨ ((0 ≤ ln r ∧ ln r ≤ 2) ∧ a3 r 1 = 1 ∧ a3 r 2 = ln r ∧ a3 r 3 = mn r ∧ (0 ≤ mn r ∧ mn r ≤ 40) ∧ ∀ k, k < 40 → a11 r k = it (40 * r + k))
def ST (tb : Nat → Int) (tl : Int) (mb : Nat → Int) (ml : Int) : Prop := tl = ml ∧ (0 ≤ ml ∧ ml ≤ 140) ∧ ∀ k : Nat, (k : Int) < ml → tb k = mb k ∧ 0 ≤ mb k ∧ mb k ≤ 255
def SA (ct : Int) (cn : Nat → Int) (mt : Int) (mn : Nat → Int) : Prop := ct = mt ∧ (0 ≤ mt ∧ mt ≤ 16) ∧ ∀ k : Nat, (k : Int) < mt → cn k = mn k
def SW (σ : Hp) : Prop := RelW σ 0 (σ 27 0) ∧ WF 999 (σ 27 0)
def SP (σ : Hp) : Prop := σ 1 0 2 = σ 7 0 16 ∧ (0 ≤ σ 7 0 16 ∧ σ 7 0 16 ≤ 24) ∧ (0 ≤ σ 1 0 1 ∧ σ 1 0 1 < 24) ∧ ∀ i : Nat, (i : Int) < σ 7 0 16 → RelW σ (4 + ((σ 1 0 1).toNat + 24 - (σ 7 0 16).toNat + i) % 24) (fun k => σ 29 0 (48 * i + k)) ∧ WF 999 (fun k => σ 29 0 (48 * i + k))
def SI (σ : Hp) : Prop := ∀ k, k < 2 → (σ 31 0 k = 0 ∧ σ 5 (2 + k) 7 = 0) ∨ (σ 31 0 k = 1 ∧ RelW σ (2 + k) (fun x => σ 30 0 (48 * k + x)) ∧ WF 999 (fun x => σ 30 0 (48 * k + x)) ∧ 0 < σ 30 0 (48 * k))
def SB (σ : Hp) : Prop := SW σ ∧ SP σ ∧ SI σ
def STold (σ : Hp) : Prop := ∀ j, j < 28 → σ 5 j 7 = 0 ∨ σ 5 j 7 = 1
def Sim (σ : Hp) : Prop := SR (σ 3) (σ 11) (σ 22 0) (σ 23 0) (σ 24 0) ∧ ST (σ 12 0) (σ 4 0 1) (σ 26 0) (σ 7 0 6) ∧ SB σ ∧ SA (σ 0 0 1) (σ 8 0) (σ 7 0 21) (σ 33 0) ∧ σ 6 0 8 = σ 7 0 7 ∧ σ 6 0 9 = σ 7 0 4 ∧ STold σ
theorem SW.cg {σ σ' : Hp} (h : SW σ) (hw : ∀ s, isW s → σ' s 0 = σ s 0) (h27 : σ' 27 0 = σ 27 0) : SW σ' := by
  unfold SW
  rw [h27]
  exact ⟨h.1.cg hw, h.2⟩
theorem SP.cg {σ σ' : Hp} (h : SP σ) (hw : ∀ s j, isW s → 4 ≤ j → σ' s j = σ s j) (h1 : σ' 1 0 1 = σ 1 0 1) (h2 : σ' 1 0 2 = σ 1 0 2) (h29 : σ' 29 0 = σ 29 0) (h7 : σ' 7 0 16 = σ 7 0 16) : SP σ' := by
  unfold SP
  rw [h1, h2, h29, h7]
  exact ⟨h.1, h.2.1, h.2.2.1, fun i hi => ⟨(h.2.2.2 i hi).1.cg (fun s hs => hw s _ hs (by omega)), (h.2.2.2 i hi).2⟩⟩
theorem SI.cg {σ σ' : Hp} (h : SI σ) (hw : ∀ s j, isW s → (j = 2 ∨ j = 3) → σ' s j = σ s j) (h31 : σ' 31 0 = σ 31 0) (h30 : σ' 30 0 = σ 30 0) : SI σ' := by
  intro k hk
  rw [h31, h30, hw 5 (2 + k) (Or.inl rfl) (by omega)]
  rcases h k hk with h1 | h1
  · exact Or.inl h1
  · exact Or.inr ⟨h1.1, h1.2.1.cg (fun s hs => hw s _ hs (by omega)), h1.2.2⟩
/-- what the woods of both sides rest on -/
theorem SB.cg {σ σ' : Hp} (h : SB σ) (hw : ∀ s j, isW s → j ≠ 1 → σ' s j = σ s j) (h27 : σ' 27 0 = σ 27 0) (h1 : σ' 1 0 1 = σ 1 0 1) (h2 : σ' 1 0 2 = σ 1 0 2) (h29 : σ' 29 0 = σ 29 0) (h7 : σ' 7 0 16 = σ 7 0 16) (h31 : σ' 31 0 = σ 31 0) (h30 : σ' 30 0 = σ 30 0) : SB σ' :=
  ⟨h.1.cg (fun s hs => hw s 0 hs (by omega)) h27, h.2.1.cg (fun s j hs hj => hw s j hs (by omega)) h1 h2 h29 h7, h.2.2.cg (fun s j hs hj => hw s j hs (by omega)) h31 h30⟩
theorem STold.cg {σ σ' : Hp} (h : STold σ) (hw : ∀ j, j ≠ 1 → σ' 5 j = σ 5 j) (h1 : σ' 5 1 7 = 0 ∨ σ' 5 1 7 = 1) : STold σ' := by
  intro j hj
  by_cases e : j = 1
  · subst e; exact h1
  · rw [hw j e]; exact h j hj
/-- cells that nothing rests on: the class' tried wood and reading, the model's tried wood, spare, draft -/
def scr (s j : Nat) : Prop := (isW s ∧ j = 1) ∨ s = 10 ∨ s = 32 ∨ s = 25 ∨ s = 28
theorem Sim.off {σ σ' : Hp} (h : Sim σ) (ho : ∀ s j, ¬ scr s j → σ' s j = σ s j) (ht : σ' 5 1 7 = 0 ∨ σ' 5 1 7 = 1) : Sim σ' := by
  obtain ⟨a1, a2, a3, a4, a5, a6, a7⟩ := h
  have e : ∀ s j, ¬ (isW s ∧ j = 1) → s ≠ 10 → s ≠ 32 → s ≠ 25 → s ≠ 28 → σ' s j = σ s j := fun s j h1 h2 h3 h4 h5 => ho s j (fun z => by rcases z with z | z | z | z | z <;> contradiction)
  have n : ∀ s j, s < 13 → s ≠ 5 → s ≠ 10 → σ' s j = σ s j := fun s j h1 h2 h3 => e s j (fun z => by rcases z.1 with q | q <;> omega) h3 (by omega) (by omega) (by omega)
  have n2 : ∀ s j, 20 ≤ s → s ≠ 32 → s ≠ 25 → s ≠ 28 → σ' s j = σ s j := fun s j h1 h2 h3 h4 => e s j (fun z => by rcases z.1 with q | q <;> omega) (by omega) h2 h3 h4
  have wo : ∀ s j, isW s → j ≠ 1 → σ' s j = σ s j := fun s j hs hj => e s j (fun z => hj z.2) (by rcases hs with q | q <;> omega) (by rcases hs with q | q <;> omega) (by rcases hs with q | q <;> omega) (by rcases hs with q | q <;> omega)
  have r3 : σ' 3 = σ 3 := funext fun j => n 3 j (by omega) (by omega) (by omega)
  have r11 : σ' 11 = σ 11 := funext fun j => n 11 j (by omega) (by omega) (by omega)
  unfold Sim
  rw [r3, r11, n2 22 0 (by omega) (by omega) (by omega) (by omega), n2 23 0 (by omega) (by omega) (by omega) (by omega), n2 24 0 (by omega) (by omega) (by omega) (by omega), n 12 0 (by omega) (by omega) (by omega), n 4 0 (by omega) (by omega) (by omega), n2 26 0 (by omega) (by omega) (by omega) (by omega), n 7 0 (by omega) (by omega) (by omega), n 0 0 (by omega) (by omega) (by omega), n 8 0 (by omega) (by omega) (by omega), n2 33 0 (by omega) (by omega) (by omega) (by omega), n 6 0 (by omega) (by omega) (by omega)]
  exact ⟨a1, a2, a3.cg wo (n2 27 0 (by omega) (by omega) (by omega) (by omega)) (by rw [n 1 0 (by omega) (by omega) (by omega)]) (by rw [n 1 0 (by omega) (by omega) (by omega)]) (n2 29 0 (by omega) (by omega) (by omega) (by omega)) (by rw [n 7 0 (by omega) (by omega) (by omega)]) (n2 31 0 (by omega) (by omega) (by omega) (by omega)) (n2 30 0 (by omega) (by omega) (by omega) (by omega)), a4, a5, a6, a7.cg (fun j hj => wo 5 j (Or.inl rfl) hj) ht⟩
/-- both sides answer alike, and agree behind it -/
def Ok (f g : Hp → Option (Int × Hp)) (σ : Hp) : Prop := ∃ r σ1 σ2, f σ = some (r, σ1) ∧ g σ1 = some (r, σ2) ∧ Sim σ2
/-- both answer alike, and nothing changes -/
theorem Ok.same {f g : Hp → Option (Int × Hp)} {σ : Hp} {r : Int} (h : Sim σ) (h1 : f σ = some (r, σ)) (h2 : g σ = some (r, σ)) : Ok f g σ := ⟨r, σ, σ, h1, h2, h⟩
/-- the numbers of the latest finding are noted -/
def sta (σ : Hp) (v : Int) : Hp := hup (hup σ 6 0 9 v) 7 0 4 v
theorem Sim.sta {σ : Hp} (h : Sim σ) (v : Int) : Sim (sta σ v) := by
  obtain ⟨a1, a2, a3, a4, a5, a6, a7⟩ := h
  have e : ∀ s, s ≠ 6 → s ≠ 7 → hup (hup σ 6 0 9 v) 7 0 4 v s = σ s := fun s h1 h2 => by rw [hup_s h2, hup_s h1]
  unfold Sim _root_.Jvm.Pilot.CBarkNamesLaw_law_r8950_d8a66e.sta
  rw [e 3 (by omega) (by omega), e 11 (by omega) (by omega), e 22 (by omega) (by omega), e 23 (by omega) (by omega), e 24 (by omega) (by omega), e 12 (by omega) (by omega), e 4 (by omega) (by omega), e 26 (by omega) (by omega), e 0 (by omega) (by omega), e 8 (by omega) (by omega), e 33 (by omega) (by omega)]
  refine ⟨a1, ?_, a3.cg (fun s j hs hj => by rw [e s (by rcases hs with q | q <;> omega) (by rcases hs with q | q <;> omega)]) (by rw [e 27 (by omega) (by omega)]) (by rw [e 1 (by omega) (by omega)]) (by rw [e 1 (by omega) (by omega)]) (by rw [e 29 (by omega) (by omega)]) (by rw [hup_k (by omega), hup_s (by omega)]) (by rw [e 31 (by omega) (by omega)]) (by rw [e 30 (by omega) (by omega)]), ?_, ?_, ?_, a7.cg (fun j hj => by rw [e 5 (by omega) (by omega)]) (by rw [e 5 (by omega) (by omega)]; exact a7 1 (by omega))⟩
  · rw [hup_k (by omega), hup_s (by omega)]; exact a2
  · rw [hup_k (by omega), hup_s (by omega)]; exact a4
  · rw [hup_s (by omega), hup_k (by omega), hup_k (by omega), hup_s (by omega)]; exact a5
  · rw [hup_s (by omega), hup_at, hup_at]
theorem Ok.found {f g : Hp → Option (Int × Hp)} {σ : Hp} {v : Int} (h : Sim σ) (hv : 0 ≤ v ∧ v < 10) (h1 : f σ = fX6_found σ v) (h2 : ∀ τ : Hp, τ = hup σ 6 0 9 v → g τ = fX7_found τ v) : Ok f g σ := by
  refine ⟨-1000010 - v, hup σ 6 0 9 v, sta σ v, ?_, ?_, h.sta v⟩
  · rw [h1]; unfold fX6_found; simp only [sq]; rw [wr_of (by omega) (by omega)]
  · rw [h2 _ rfl]; unfold fX7_found; simp only [sq]; rw [wr_of (by omega) (by omega)]; rfl
