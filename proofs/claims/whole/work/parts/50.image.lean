/-! woods that agree below 48; images -/
def agr (w w' : Wv) : Prop := ∀ x : Nat, x < 48 → w x = w' x
theorem WF.agr {Y : Int} {w w' : Wv} (h : WF Y w) (e : agr w w') : WF Y w' := by
  obtain ⟨h0, h1, h2, h3, h4, h5⟩ := h
  have e2 := e 2 (by omega)
  have e3 := e 3 (by omega)
  refine ⟨by rw [← e 0 (by omega)]; exact h0, by rw [← e 1 (by omega)]; exact h1, by rw [← e2]; exact h2, by rw [← e3]; exact h3, fun t ht => ?_, fun c hc => ?_⟩
  · rw [← e2] at ht
    rw [← e (4 + 3 * t) (by omega), ← e (5 + 3 * t) (by omega), ← e (6 + 3 * t) (by omega)]
    exact h4 t ht
  · rw [← e3] at hc
    rw [← e (16 + 4 * c) (by omega), ← e (17 + 4 * c) (by omega), ← e (18 + 4 * c) (by omega), ← e (19 + 4 * c) (by omega), ← e2]
    exact h5 c hc
theorem RelW.agr {σ : Hp} {j : Nat} {Y : Int} {w w' : Wv} (h : RelW σ j w) (hw : WF Y w) (e : agr w w') : RelW σ j w' := by
  obtain ⟨a1, a2, a3, a4, a5, a6, a7⟩ := h
  have b2 := hw.2.2.1
  have b3 := hw.2.2.2.1
  have e2 := e 2 (by omega)
  have e3 := e 3 (by omega)
  unfold RelW
  rw [← e 0 (by omega), ← e 1 (by omega), ← e2, ← e3]
  refine ⟨a1, a2, a3, a4, a5, fun t ht => ?_, fun c hc => ?_⟩
  · rw [← e (4 + 3 * t) (by omega), ← e (5 + 3 * t) (by omega), ← e (6 + 3 * t) (by omega)]
    exact a6 t ht
  · rw [← e (16 + 4 * c) (by omega), ← e (17 + 4 * c) (by omega), ← e (18 + 4 * c) (by omega), ← e (19 + 4 * c) (by omega)]
    exact a7 c hc
theorem copies_l {s1 j1 s2 j2 A B : Nat} (h1 : A + 48 ≤ alen s1) (h2 : B + 48 ≤ alen s2) (hA : A < 10000) (hB : B < 10000) (hne : ¬ (s1 = s2 ∧ j1 = j2)) : ∀ (d c n : Nat) (σ : Hp), c + d = 48 → d + 1 ≤ n →
    lX7_copies_3 n σ s1 j1 s2 j2 A B c = some (0, srow σ s2 j2 (filG (σ s2 j2) (B + c) (B + 48) (fun x => σ s1 j1 (A + (x - B))))) := by
  intro d
  induction d with
  | zero =>
    intro c n σ hc hn
    obtain ⟨n, rfl⟩ : ∃ m, n = m + 1 := ⟨n - 1, by omega⟩
    rw [lX7_copies_3_e0, if_pos (by omega), filG_end _ _ (by omega), srow_self]
  | succ d ih =>
    intro c n σ hc hn
    obtain ⟨n, rfl⟩ : ∃ m, n = m + 1 := ⟨n - 1, by omega⟩
    have e5 : wr ((c : Int) + 1) = ((c + 1 : Nat) : Int) := by rw [wr_of (by omega) (by omega)]; omega
    rw [lX7_copies_3_e0, if_neg (by omega), wradd (a := A) (b := c) (by omega), wradd (a := B) (b := c) (by omega), gd_pos (by omega), gd_pos (by omega), Int.toNat_natCast, Int.toNat_natCast]
    simp only [sq]
    have e6 : σ s1 j1 (A + c) = (fun x => σ s1 j1 (A + (x - B))) (B + c) := by
      show σ s1 j1 (A + c) = σ s1 j1 (A + (B + c - B))
      rw [show B + c - B = c by omega]
    rw [e5, ih (c + 1) n _ (by omega) (by omega), hup_row σ, srow_at, srow_srow, srow_ne hne, e6, show B + (c + 1) = B + c + 1 by omega, filG_step (σ s2 j2) (fun x => σ s1 j1 (A + (x - B))) (by omega)]
theorem copies_sp (σ : Hp) {s1 j1 s2 j2 A B : Nat} (h1 : A + 48 ≤ alen s1) (h2 : B + 48 ≤ alen s2) (hA : A < 10000) (hB : B < 10000) (hne : ¬ (s1 = s2 ∧ j1 = j2)) :
    fX7_copies σ s1 j1 A s2 j2 B = some (0, srow σ s2 j2 (filG (σ s2 j2) B (B + 48) (fun x => σ s1 j1 (A + (x - B))))) := by
  have h := copies_l h1 h2 hA hB hne 48 0 FU σ (by omega) (by rw [FU_eq]; omega)
  unfold fX7_copies
  rw [show ((0 : Nat) : Int) = 0 from rfl, Nat.add_zero] at h
  exact h
theorem isWood7 {σ : Hp} : fX7_isWood σ = 0 ↔ ¬ 0 < σ 27 0 0 := by
  unfold fX7_isWood
  split <;> omega
/-- the status aside, a change of woods and of what belongs to them -/
theorem Sim.woods {σ σ' : Hp} (h : Sim σ) (ho : ∀ s j, ¬ isW s → s ≠ 1 → s ≠ 7 → s ≠ 27 → s ≠ 29 → s ≠ 30 → s ≠ 31 → s ≠ 10 → s ≠ 32 → σ' s j = σ s j) (h7 : ∀ k, (k = 4 ∨ k = 6 ∨ k = 7 ∨ k = 21) → σ' 7 0 k = σ 7 0 k) (hB : SB σ') (ht : STold σ') : Sim σ' := by
  obtain ⟨a1, a2, a3, a4, a5, a6, a7⟩ := h
  have n : ∀ s j, (s = 3 ∨ s = 11 ∨ s = 22 ∨ s = 23 ∨ s = 24 ∨ s = 12 ∨ s = 4 ∨ s = 26 ∨ s = 0 ∨ s = 8 ∨ s = 33 ∨ s = 6) → σ' s j = σ s j := fun s j hz => ho s j (fun z => by rcases z with q | q <;> omega) (by omega) (by omega) (by omega) (by omega) (by omega) (by omega) (by omega) (by omega)
  have r3 : σ' 3 = σ 3 := funext fun j => n 3 j (by omega)
  have r11 : σ' 11 = σ 11 := funext fun j => n 11 j (by omega)
  unfold Sim
  rw [r3, r11, n 22 0 (by omega), n 23 0 (by omega), n 24 0 (by omega), n 12 0 (by omega), n 4 0 (by omega), n 26 0 (by omega), n 0 0 (by omega), n 8 0 (by omega), n 33 0 (by omega), n 6 0 (by omega), h7 4 (by omega), h7 6 (by omega), h7 7 (by omega), h7 21 (by omega)]
  exact ⟨a1, a2, hB, a4, a5, a6, ht⟩
theorem STold.rel {σ σ' : Hp} {j0 : Nat} {w : Wv} (h : STold σ) (ho : ∀ j, j ≠ j0 → σ' 5 j = σ 5 j) (hR : RelW σ' j0 w) : STold σ' := by
  intro j hj
  by_cases e : j = j0
  · subst e; exact hR.told
  · rw [ho j e]; exact h j hj
theorem told0 {σ : Hp} {j : Nat} {w : Wv} (hR : RelW σ j w) : σ 5 j 7 = 0 ↔ ¬ 0 < w 0 := by
  rw [hR.1]
  split <;> omega
theorem ok_image {σ : Hp} (h : Sim σ) {a : Int} : Ok (fun τ => fX6_image τ a) (fun τ => fX7_image τ a) σ := by
  obtain ⟨⟨hR, hw⟩, hSP, hSI⟩ := h.2.2.1
  by_cases ha : 0 ≤ a ∧ a < 2
  case neg =>
    refine Ok.same (r := -1000001) h ?_ ?_
    · simp only [fX6_image]; rw [if_pos (below_0.mpr ha)]
    · simp only [fX7_image]; rw [if_pos (in_0.mpr (by omega))]
  by_cases h0 : 0 < σ 27 0 0
  case neg =>
    refine Ok.same (r := -1000002) h ?_ ?_
    · simp only [fX6_image]; rw [if_neg (fun z => below_0.mp z ha), if_pos ((told0 hR).mpr h0)]
    · simp only [fX7_image]; rw [if_neg (in_1 (by omega)), if_pos (isWood7.mpr h0)]
  obtain ⟨k, rfl⟩ : ∃ k : Nat, a = k := ⟨a.toNat, by omega⟩
  have hk2 : k < 2 := by omega
  obtain ⟨σ1, e1, o1, R1⟩ := become_rel (j0 := 2 + k) hR hw
  have hn : ∀ s j, ¬ isW s → σ1 s j = σ s j := fun s j hs => o1 s j (fun z => hs z.1)
  refine ⟨1, σ1, hup (srow σ1 30 0 (filG (σ 30 0) (48 * k) (48 * k + 48) (fun x => σ 27 0 (0 + (x - 48 * k))))) 31 0 k 1, ?_, ?_, ?_⟩
  · simp only [fX6_image]
    rw [if_neg (fun z => below_0.mp z ha), if_neg (fun z => (told0 hR).mp z h0), gd_pos (by omega), Int.toNat_natCast, e1]
    rfl
  · simp only [fX7_image]
    have e48 : wr (48 * (k : Int)) = ((48 * k : Nat) : Int) := by rw [wr_of (by omega) (by omega)]; omega
    have ec := copies_sp σ1 (s1 := 27) (j1 := 0) (s2 := 30) (j2 := 0) (A := 0) (B := 48 * k) (by show 0 + 48 ≤ 48; omega) (by show 48 * k + 48 ≤ 96; omega) (by omega) (by omega) (by omega)
    rw [show ((0 : Nat) : Int) = 0 from rfl] at ec
    rw [if_neg (in_1 (by omega)), if_neg (fun z => (isWood7 (σ := σ1)).mp z (by rw [hn 27 0 (fun z => by rcases z with q | q <;> omega)]; exact h0)), e48, ec, cl_pos, gd_pos (by omega), Int.toNat_natCast]
    simp only [sq]
    rw [hn 30 0 (fun z => by rcases z with q | q <;> omega), hn 27 0 (fun z => by rcases z with q | q <;> omega)]
  · have nw : ∀ s, isW s → s ≠ 30 ∧ s ≠ 31 := fun s hs => by rcases hs with q | q <;> omega
    have wsame : ∀ s j, isW s → hup (srow σ1 30 0 (filG (σ 30 0) (48 * k) (48 * k + 48) (fun x => σ 27 0 (0 + (x - 48 * k))))) 31 0 k 1 s j = σ1 s j := fun s j hs => by rw [hup_s (nw s hs).2, srow_ne (fun z => (nw s hs).1 z.1)]
    have osame : ∀ s j, ¬ isW s → s ≠ 30 → s ≠ 31 → hup (srow σ1 30 0 (filG (σ 30 0) (48 * k) (48 * k + 48) (fun x => σ 27 0 (0 + (x - 48 * k))))) 31 0 k 1 s j = σ s j := fun s j hs h1 h2 => by rw [hup_s h2, srow_ne (fun z => h1 z.1), hn s j hs]
    have nW : ∀ s, (s = 1 ∨ s = 7 ∨ s = 27 ∨ s = 29) → ¬ isW s ∧ s ≠ 30 ∧ s ≠ 31 := fun s hs => ⟨fun z => by rcases z with q | q <;> omega, by omega, by omega⟩
    refine h.woods (fun s j hs h1 h7 h27 h29 h30 h31 _ _ => osame s j hs h30 h31) (fun x _ => by rw [osame 7 0 (nW 7 (by omega)).1 (by omega) (by omega)]) ⟨?_, ?_, ?_⟩ ?_
    · exact SW.cg ⟨hR, hw⟩ (fun s hs => by rw [wsame s 0 hs]; exact o1 s 0 (fun z => by omega)) (osame 27 0 (nW 27 (by omega)).1 (by omega) (by omega))
    · exact hSP.cg (fun s j hs hj => by rw [wsame s j hs]; exact o1 s j (fun z => by omega)) (by rw [osame 1 0 (nW 1 (by omega)).1 (by omega) (by omega)]) (by rw [osame 1 0 (nW 1 (by omega)).1 (by omega) (by omega)]) (osame 29 0 (nW 29 (by omega)).1 (by omega) (by omega)) (by rw [osame 7 0 (nW 7 (by omega)).1 (by omega) (by omega)])
    · intro q hq
      by_cases e : q = k
      · subst e
        have ea : agr (σ 27 0) (fun x => hup (srow σ1 30 0 (filG (σ 30 0) (48 * q) (48 * q + 48) (fun x => σ 27 0 (0 + (x - 48 * q))))) 31 0 q 1 30 0 (48 * q + x)) := by
          intro x hx
          dsimp only
          rw [hup_s (by omega), srow_at]
          unfold filG
          rw [if_pos (by omega)]
          dsimp only
          rw [show 0 + (48 * q + x - 48 * q) = x by omega]
        have R2 : RelW (hup (srow σ1 30 0 (filG (σ 30 0) (48 * q) (48 * q + 48) (fun x => σ 27 0 (0 + (x - 48 * q))))) 31 0 q 1) (2 + q) (σ 27 0) := R1.cg (fun s hs => wsame s _ hs)
        refine Or.inr ⟨hup_at _ _ _ _ _, R2.agr hw ea, hw.agr ea, ?_⟩
        have e0 := ea 0 (by omega)
        dsimp only at e0
        rw [e0] at h0
        rw [show 48 * q + 0 = 48 * q by omega] at h0
        exact h0
      · have h30 : ∀ x, x < 48 → hup (srow σ1 30 0 (filG (σ 30 0) (48 * k) (48 * k + 48) (fun x => σ 27 0 (0 + (x - 48 * k))))) 31 0 k 1 30 0 (48 * q + x) = σ 30 0 (48 * q + x) := by
          intro x hx
          rw [hup_s (by omega), srow_at]
          unfold filG
          rw [if_neg (by omega)]
        rw [hup_k e, srow_ne (by omega), hn 31 0 (fun z => by rcases z with q | q <;> omega), wsame 5 (2 + q) (Or.inl rfl), o1 5 (2 + q) (fun z => by omega)]
        rcases hSI q hq with h1 | ⟨h1, h2, h3, h4⟩
        · exact Or.inl h1
        · have ea : agr (fun x => σ 30 0 (48 * q + x)) (fun x => hup (srow σ1 30 0 (filG (σ 30 0) (48 * k) (48 * k + 48) (fun x => σ 27 0 (0 + (x - 48 * k))))) 31 0 k 1 30 0 (48 * q + x)) := fun x hx => (h30 x hx).symm
          refine Or.inr ⟨h1, RelW.agr (h2.cg (fun s hs => by rw [wsame s _ hs]; exact o1 s _ (fun z => by omega))) h3 ea, h3.agr ea, ?_⟩
          have e0 := h30 0 (by omega)
          rw [show 48 * q + 0 = 48 * q by omega] at e0
          rw [← e0] at h4
          exact h4
    · refine h.2.2.2.2.2.2.rel (j0 := 2 + k) (fun j hj => ?_) (R1.cg (fun s hs => wsame s _ hs))
      rw [wsame 5 j (Or.inl rfl)]
      exact o1 5 j (fun z => hj z.2)
