/-! undo: the newest of the past comes back -/
theorem bring_sp {σ : Hp} {m x : Nat} {w : Wv} (h2 : σ 1 0 2 = ((m + 1 : Nat) : Int)) (hm : m < 24) (h1 : σ 1 0 1 = (x : Int)) (hx : x < 24) (hR : RelW σ (4 + (x + 23) % 24) w) (hw : WF 999 w) :
    ∃ σ1, fX1_bringBack σ 0 = some (0, σ1) ∧ (∀ s j, ¬ (isW s ∧ j = 0) → s ≠ 1 → σ1 s j = σ s j) ∧ RelW σ1 0 w ∧ σ1 1 0 2 = (m : Int) ∧ σ1 1 0 1 = (((x + 23) % 24 : Nat) : Int) := by
  have w1 : wr (((m + 1 : Nat) : Int) - 1) = (m : Int) := by rw [wr_of (by omega) (by omega)]; omega
  have w2 : wr ((x : Int) + 24) = x + 24 := wr_of (by omega) (by omega)
  have w3 : wr ((x : Int) + 24 - 1) = ((x + 23 : Nat) : Int) := by rw [wr_of (by omega) (by omega)]; omega
  have w4 : qrem ((x + 23 : Nat) : Int) 24 = (((x + 23) % 24 : Nat) : Int) := by rw [qrem_of (by omega) (by omega) (by omega)]; omega
  obtain ⟨y, hy⟩ : ∃ y, y = (x + 23) % 24 := ⟨_, rfl⟩
  rw [← hy] at hR ⊢
  rw [← hy] at w4
  have hR' : RelW (hup (hup σ 1 0 2 m) 1 0 1 y) (4 + y) w := hR.cg (fun s hs => by
    have : s ≠ 1 := by rcases hs with q | q <;> omega
    rw [hup_s this, hup_s this])
  obtain ⟨σ1, e1, o1, R1⟩ := become_rel (j0 := 0) hR' hw
  have n1 : ¬ isW 1 := fun z => by rcases z with q | q <;> omega
  refine ⟨σ1, ?_, fun s j hs h1 => ?_, R1, ?_, ?_⟩
  · unfold fX1_bringBack
    rw [if_neg (by omega)]
    simp only [sq]
    have q : hup σ 1 0 2 (m : Int) 1 0 1 = (x : Int) := by rw [hup_k (by omega), h1]
    rw [h2, w1, q, w2, w3, w4, hup_at, gd_pos (by omega), Int.toNat_natCast, e1]
    rfl
  · rw [o1 s j hs, hup_s h1, hup_s h1]
  · rw [o1 1 0 (fun z => n1 z.1), hup_k (by omega), hup_at]
  · rw [o1 1 0 (fun z => n1 z.1), hup_at]
theorem ok_undo {σ : Hp} (h : Sim σ) : Ok fX6_undo fX7_undo σ := by
  obtain ⟨⟨hR, hw⟩, ⟨s1, s2, s3, s4⟩, hSI⟩ := h.2.2.1
  obtain ⟨n, hn⟩ : ∃ n : Nat, σ 7 0 16 = n := ⟨(σ 7 0 16).toNat, by omega⟩
  obtain ⟨x, hx⟩ : ∃ x : Nat, σ 1 0 1 = x := ⟨(σ 1 0 1).toNat, by omega⟩
  by_cases h0 : n = 0
  · refine Ok.same (r := -1000002) h ?_ ?_
    · unfold fX6_undo; rw [if_pos (by omega)]
    · unfold fX7_undo; rw [if_pos (by omega)]
  obtain ⟨m, rfl⟩ : ∃ m, n = m + 1 := ⟨n - 1, by omega⟩
  have e4 : ∀ i : Nat, i ≤ m → RelW σ (4 + (x + 24 - (m + 1) + i) % 24) (fun k => σ 29 0 (48 * i + k)) ∧ WF 999 (fun k => σ 29 0 (48 * i + k)) := fun i hi => by
    have := s4 i (by omega)
    rw [hx, hn, Int.toNat_natCast, Int.toNat_natCast] at this
    exact this
  obtain ⟨Rm, Wm⟩ := e4 m (by omega)
  rw [show (x + 24 - (m + 1) + m) % 24 = (x + 23) % 24 by omega] at Rm
  obtain ⟨σ1, eb, o1, R1, p2, p1⟩ := bring_sp (σ := σ) (m := m) (x := x) (by omega) (by omega) hx (by omega) Rm Wm
  obtain ⟨W, hW⟩ : ∃ W, W = filG (σ 27 0) 0 (0 + 48) (fun x => σ 29 0 (48 * m + (x - 0))) := ⟨_, rfl⟩
  obtain ⟨τ2, hτ2⟩ : ∃ τ2, τ2 = srow (hup σ1 7 0 16 m) 27 0 W := ⟨_, rfl⟩
  have nW : ∀ s, (s = 1 ∨ s = 7 ∨ s = 27 ∨ s = 29 ∨ s = 30 ∨ s = 31) → ¬ isW s := fun s hs z => by rcases z with q | q <;> omega
  have wsame : ∀ s j, isW s → τ2 s j = σ1 s j := fun s j hs => by
    have hd : s ≠ 7 ∧ s ≠ 27 := by rcases hs with q | q <;> omega
    rw [hτ2, srow_ne (fun z => hd.2 z.1), hup_s hd.1]
  have osame : ∀ s j, ¬ isW s → s ≠ 1 → s ≠ 7 → s ≠ 27 → τ2 s j = σ s j := fun s j hs q1 q7 q27 => by
    rw [hτ2, srow_ne (fun z => q27 z.1), hup_s q7, o1 s j (fun z => hs z.1) q1]
  have ea : agr (fun x => σ 29 0 (48 * m + x)) W := by
    intro x hx
    rw [hW]
    unfold filG
    rw [if_pos (by omega)]
    dsimp only
    rw [show x - 0 = x by omega]
  have t27 : τ2 27 0 = W := by rw [hτ2, srow_at]
  have t11 : τ2 1 0 1 = (((x + 23) % 24 : Nat) : Int) := by rw [hτ2, srow_ne (by omega), hup_s (by omega), p1]
  have t12 : τ2 1 0 2 = (m : Int) := by rw [hτ2, srow_ne (by omega), hup_s (by omega), p2]
  have t7 : τ2 7 0 16 = (m : Int) := by rw [hτ2, srow_ne (by omega), hup_at]
  have t29 := osame 29 0 (nW 29 (by omega)) (by omega) (by omega) (by omega)
  refine ⟨m, σ1, τ2, ?_, ?_, ?_⟩
  · unfold fX6_undo
    rw [if_neg (by omega), eb, cl_pos, p2]
  · unfold fX7_undo
    have q7 : σ1 7 0 16 = ((m + 1 : Nat) : Int) := by rw [o1 7 0 (fun z => nW 7 (by omega) z.1) (by omega), hn]
    have w1 : wr (((m + 1 : Nat) : Int) - 1) = (m : Int) := by rw [wr_of (by omega) (by omega)]; omega
    have e48 : wr (48 * (m : Int)) = ((48 * m : Nat) : Int) := by rw [wr_of (by omega) (by omega)]; omega
    have ec := copies_sp (hup σ1 7 0 16 m) (s1 := 29) (j1 := 0) (s2 := 27) (j2 := 0) (A := 48 * m) (B := 0) (by show 48 * m + 48 ≤ 1152; omega) (by show 0 + 48 ≤ 48; omega) (by omega) (by omega) (by omega)
    rw [show ((0 : Nat) : Int) = 0 from rfl, hup_s (s' := 27) (by omega), hup_s (s' := 29) (by omega), o1 27 0 (fun z => nW 27 (by omega) z.1) (by omega), o1 29 0 (fun z => nW 29 (by omega) z.1) (by omega), ← hW, ← hτ2] at ec
    rw [q7, if_neg (by omega), w1]
    simp only [sq]
    rw [hup_at, e48, ec, cl_pos, t7]
  · refine h.woods (fun s j hs q1 q7 q27 _ _ _ _ _ => osame s j hs q1 q7 q27) (fun k hk => by rw [hτ2, srow_ne (by omega), hup_k (by omega), o1 7 0 (fun z => nW 7 (by omega) z.1) (by omega)]) ⟨⟨?_, ?_⟩, ⟨?_, ?_, ?_, ?_⟩, ?_⟩ ?_
    · rw [t27]
      exact RelW.agr (R1.cg (fun s hs => wsame s 0 hs)) Wm ea
    · rw [t27]
      exact Wm.agr ea
    · rw [t12, t7]
    · rw [t7]; omega
    · rw [t11]; omega
    · intro i hi
      rw [t7] at hi
      rw [t11, t7, Int.toNat_natCast, Int.toNat_natCast, t29]
      obtain ⟨Ri, Wi⟩ := e4 i (by omega)
      rw [show (x + 24 - (m + 1) + i) % 24 = ((x + 23) % 24 + 24 - m + i) % 24 by omega] at Ri
      exact ⟨Ri.cg (fun s hs => by rw [wsame s _ hs]; exact o1 s _ (fun z => by omega) (by rcases hs with q | q <;> omega)), Wi⟩
    · exact hSI.cg (fun s j hs hj => by rw [wsame s j hs]; exact o1 s j (fun z => by omega) (by rcases hs with q | q <;> omega)) (osame 31 0 (nW 31 (by omega)) (by omega) (by omega) (by omega)) (osame 30 0 (nW 30 (by omega)) (by omega) (by omega) (by omega))
    · refine h.2.2.2.2.2.2.rel (j0 := 0) (fun j hj => ?_) (R1.cg (fun s hs => wsame s 0 hs))
      rw [wsame 5 j (Or.inl rfl)]
      exact o1 5 j (fun z => hj z.2) (by omega)
