/-! restore, asks of kinds -/
theorem ok_restore {σ : Hp} (h : Sim σ) {a : Int} : Ok (fun τ => fX6_restore τ a) (fun τ => fX7_restore τ a) σ := by
  obtain ⟨⟨hR, hw⟩, hSP, hSI⟩ := h.2.2.1
  by_cases ha : 0 ≤ a ∧ a < 2
  case neg =>
    refine Ok.same (r := -1000001) h ?_ ?_
    · simp only [fX6_restore]; rw [if_pos (below_0.mpr ha)]
    · simp only [fX7_restore]; rw [if_pos (in_0.mpr (by omega))]
  obtain ⟨k, rfl⟩ : ∃ k : Nat, a = k := ⟨a.toNat, by omega⟩
  have hk2 : k < 2 := by omega
  rcases hSI k hk2 with ⟨h1, h2⟩ | ⟨h1, h2, h3, h4⟩
  · refine Ok.same (r := -1000002) h ?_ ?_
    · simp only [fX6_restore]; rw [if_neg (fun z => below_0.mp z ha), gd_pos (by omega), Int.toNat_natCast, if_pos h2]
    · simp only [fX7_restore]; rw [if_neg (in_1 (by omega)), gd_pos (by omega), Int.toNat_natCast, if_pos h1]
  have h5 : ¬ σ 5 (2 + k) 7 = 0 := fun z => (told0 h2).mp z h4
  obtain ⟨σ1, e1, o1, R1⟩ := become_rel (j0 := 0) h2 h3
  have hn : ∀ s j, ¬ isW s → σ1 s j = σ s j := fun s j hs => o1 s j (fun z => hs z.1)
  have nW : ∀ s, (s = 1 ∨ s = 7 ∨ s = 27 ∨ s = 29 ∨ s = 30 ∨ s = 31) → ¬ isW s := fun s hs z => by rcases z with q | q <;> omega
  obtain ⟨τ1, hτ1⟩ : ∃ τ1, τ1 = hup σ1 1 0 2 0 := ⟨_, rfl⟩
  obtain ⟨W, hW⟩ : ∃ W, W = filG (σ 27 0) 0 (0 + 48) (fun x => σ 30 0 (48 * k + (x - 0))) := ⟨_, rfl⟩
  obtain ⟨τ2, hτ2⟩ : ∃ τ2, τ2 = hup (srow τ1 27 0 W) 7 0 16 0 := ⟨_, rfl⟩
  have a27 : τ1 27 0 = σ 27 0 := by rw [hτ1, hup_s (by omega), hn 27 0 (nW 27 (by omega))]
  have a30 : τ1 30 0 = σ 30 0 := by rw [hτ1, hup_s (by omega), hn 30 0 (nW 30 (by omega))]
  have a31 : τ1 31 0 = σ 31 0 := by rw [hτ1, hup_s (by omega), hn 31 0 (nW 31 (by omega))]
  have wsame : ∀ s j, isW s → τ2 s j = σ1 s j := fun s j hs => by
    have hd : s ≠ 7 ∧ s ≠ 27 ∧ s ≠ 1 := by rcases hs with q | q <;> omega
    rw [hτ2, hup_s hd.1, srow_ne (fun z => hd.2.1 z.1), hτ1, hup_s hd.2.2]
  have osame : ∀ s j, ¬ isW s → s ≠ 1 → s ≠ 7 → s ≠ 27 → τ2 s j = σ s j := fun s j hs q1 q7 q27 => by
    rw [hτ2, hup_s q7, srow_ne (fun z => q27 z.1), hτ1, hup_s q1, hn s j hs]
  have t27 : τ2 27 0 = W := by rw [hτ2, hup_s (by omega), srow_at]
  have t11 : τ2 1 0 1 = σ 1 0 1 := by rw [hτ2, hup_s (by omega), srow_ne (by omega), hτ1, hup_k (by omega), hn 1 0 (nW 1 (by omega))]
  have t12 : τ2 1 0 2 = 0 := by rw [hτ2, hup_s (by omega), srow_ne (by omega), hτ1, hup_at]
  have t7 : τ2 7 0 16 = 0 := by rw [hτ2, hup_at]
  have ea : agr (fun x => σ 30 0 (48 * k + x)) W := by
    intro x hx
    rw [hW]
    unfold filG
    rw [if_pos (by omega)]
    dsimp only
    rw [show x - 0 = x by omega]
  refine ⟨1, τ1, τ2, ?_, ?_, ?_⟩
  · simp only [fX6_restore]
    rw [if_neg (fun z => below_0.mp z ha), gd_pos (by omega), Int.toNat_natCast, if_neg h5, gd_pos (by omega), e1, cl_pos, hτ1]
    rfl
  · simp only [fX7_restore]
    have e48 : wr (48 * (k : Int)) = ((48 * k : Nat) : Int) := by rw [wr_of (by omega) (by omega)]; omega
    have ec := copies_sp τ1 (s1 := 30) (j1 := 0) (s2 := 27) (j2 := 0) (A := 48 * k) (B := 0) (by show 48 * k + 48 ≤ 96; omega) (by show 0 + 48 ≤ 48; omega) (by omega) (by omega) (by omega)
    rw [show ((0 : Nat) : Int) = 0 from rfl, a27, a30, ← hW] at ec
    rw [if_neg (in_1 (by omega)), gd_pos (by omega), Int.toNat_natCast, if_neg (by rw [a31]; omega), e48, ec, cl_pos, hτ2]
    rfl
  · refine h.woods (fun s j hs q1 q7 q27 _ _ _ _ _ => osame s j hs q1 q7 q27) (fun x hx => by rw [hτ2, hup_k (by omega), srow_ne (by omega), hτ1, hup_s (by omega), hn 7 0 (nW 7 (by omega))]) ⟨⟨?_, ?_⟩, ⟨?_, ?_, ?_, ?_⟩, ?_⟩ ?_
    · rw [t27]
      exact RelW.agr (R1.cg (fun s hs => wsame s 0 hs)) h3 ea
    · rw [t27]
      exact h3.agr ea
    · rw [t12, t7]
    · rw [t7]; omega
    · rw [t11]; exact hSP.2.2.1
    · intro i hi; rw [t7] at hi; omega
    · exact hSI.cg (fun s j hs hj => by rw [wsame s j hs]; exact o1 s j (fun z => by omega)) (osame 31 0 (nW 31 (by omega)) (by omega) (by omega) (by omega)) (osame 30 0 (nW 30 (by omega)) (by omega) (by omega) (by omega))
    · refine h.2.2.2.2.2.2.rel (j0 := 0) (fun j hj => ?_) (R1.cg (fun s hs => wsame s 0 hs))
      rw [wsame 5 j (Or.inl rfl)]
      exact o1 5 j (fun z => hj z.2)
