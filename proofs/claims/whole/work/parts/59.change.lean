/-! a noted change of the wood -/
theorem Sim.change {σ σ1 σ2 υ : Hp} {n x : Nat} {W : Wv} (h : Sim σ) (hn : σ 7 0 16 = (n : Int)) (hx : σ 1 0 1 = (x : Int))
    (o1 : ∀ s j, ¬ (isW s ∧ j = 4 + x) → s ≠ 1 → σ1 s j = σ s j) (R1 : RelW σ1 (4 + x) (σ 27 0)) (c2 : σ1 1 0 2 = ((if n = 24 then 24 else n + 1 : Nat) : Int)) (c1 : σ1 1 0 1 = (((x + 1) % 24 : Nat) : Int))
    (o2 : ∀ s j, ¬ (isW s ∧ j = 0) → σ2 s j = σ1 s j) (R2 : RelW σ2 0 W) (hW : WF 999 W)
    (hυ : υ = srow (hup (srow σ2 29 0 (pastN n (σ 29 0) (σ 27 0))) 7 0 16 ((if n = 24 then 24 else n + 1 : Nat) : Int)) 27 0 W) : Sim υ := by
  have nW : ∀ s, (s = 1 ∨ s = 7 ∨ s = 27 ∨ s = 29 ∨ s = 30 ∨ s = 31) → ¬ isW s := fun s hs z => by rcases z with q | q <;> omega
  have wsame : ∀ s j, isW s → υ s j = σ2 s j := fun s j hs => by
    have hd : s ≠ 7 ∧ s ≠ 27 ∧ s ≠ 29 := by rcases hs with q | q <;> omega
    rw [hυ, srow_ne (fun z => hd.2.1 z.1), hup_s hd.1, srow_ne (fun z => hd.2.2 z.1)]
  have w1 : ∀ s j, isW s → j ≠ 0 → j ≠ 4 + x → υ s j = σ s j := fun s j hs hj hj2 => by
    rw [wsame s j hs, o2 s j (fun z => hj z.2), o1 s j (fun z => hj2 z.2) (by rcases hs with q | q <;> omega)]
  have osame : ∀ s j, ¬ isW s → s ≠ 1 → s ≠ 7 → s ≠ 27 → s ≠ 29 → υ s j = σ s j := fun s j hs q1 q7 q27 q29 => by
    rw [hυ, srow_ne (fun z => q27 z.1), hup_s q7, srow_ne (fun z => q29 z.1), o2 s j (fun z => hs z.1), o1 s j (fun z => hs z.1) q1]
  have t27 : υ 27 0 = W := by rw [hυ, srow_at]
  have t1 : υ 1 0 = σ1 1 0 := by rw [hυ, srow_ne (by omega), hup_s (by omega), srow_ne (by omega), o2 1 0 (fun z => nW 1 (by omega) z.1)]
  have t7 : υ 7 0 16 = ((if n = 24 then 24 else n + 1 : Nat) : Int) := by rw [hυ, srow_ne (by omega), hup_at]
  have t29 : υ 29 0 = pastN n (σ 29 0) (σ 27 0) := by rw [hυ, srow_ne (by omega), hup_s (by omega), srow_at]
  have RN : RelW υ (4 + x) (σ 27 0) := R1.cg (fun s hs => by rw [wsame s _ hs, o2 s _ (fun z => by omega)])
  have R0 : RelW υ 0 W := R2.cg (fun s hs => wsame s 0 hs)
  refine h.woods (fun s j hs q1 q7 q27 q29 _ _ _ _ => osame s j hs q1 q7 q27 q29) (fun k hk => ?_) ⟨⟨by rw [t27]; exact R0, by rw [t27]; exact hW⟩, ?_, ?_⟩ ?_
  · rw [hυ, srow_ne (by omega), hup_k (by omega), srow_ne (by omega), o2 7 0 (fun z => nW 7 (by omega) z.1), o1 7 0 (fun z => nW 7 (by omega) z.1) (by omega)]
  · have hs3 := h.2.2.1.2.1.2.2.1
    exact h.2.2.1.2.1.noted h.2.2.1.1 hn hx (fun s j hs h4 hj => w1 s j hs (by omega) hj) RN (by rw [t1]; exact c2) (by rw [t1]; exact c1) t29 t7
  · exact h.2.2.1.2.2.cg (fun s j hs hj => w1 s j hs (by omega) (by omega)) (osame 31 0 (nW 31 (by omega)) (by omega) (by omega) (by omega) (by omega)) (osame 30 0 (nW 30 (by omega)) (by omega) (by omega) (by omega) (by omega))
  · intro j hj
    by_cases e0 : j = 0
    · subst e0; exact R0.told
    by_cases e1 : j = 4 + x
    · subst e1; exact RN.told
    · rw [w1 5 j (Or.inl rfl) e0 e1]
      exact h.2.2.2.2.2.2 j hj
