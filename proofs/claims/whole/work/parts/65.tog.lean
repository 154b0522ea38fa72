/-! tree, count, together, rings -/
theorem Sim.row10 {σ : Hp} (h : Sim σ) (f : Nat → Int) : Sim (srow σ 10 0 f) := h.off (fun s j hn => srow_ne (fun z => hn (Or.inr (Or.inl z.1)))) (by rw [srow_ne (by omega)]; exact h.2.2.2.2.2.2 1 (by omega))
theorem ok_tree {σ : Hp} (h : Sim σ) {a b : Int} : Ok (fun τ => fX6_tree τ a b) (fun τ => fX7_tree τ a b) σ := by
  obtain ⟨hR, hw⟩ := h.2.2.1.1
  have h2 := hw.2.2.1
  have h1 := hw.2.1
  by_cases ha : 0 ≤ a ∧ a < σ 27 0 2
  case neg =>
    refine Ok.same (r := -1000001) h ?_ ?_
    · simp only [fX6_tree]; rw [if_pos ((tree6 hR).mpr ha)]
    · simp only [fX7_tree]; rw [if_pos ((tree7 hw).mpr ha)]
  obtain ⟨t, rfl⟩ : ∃ k : Nat, a = k := ⟨a.toNat, by omega⟩
  obtain ⟨q1, q2, q3⟩ := hR.2.2.2.2.2.1 t ha.2
  obtain ⟨b1, b2, b3⟩ := hw.2.2.2.2.1 t ha.2
  have e1 := (wr4u (t := t) (by omega)).1
  have e2 := (wr4u (t := t) (by omega)).2
  have e0 := wr4t (t := t) (by omega)
  by_cases c0 : b = 0
  · refine Ok.same (r := σ 27 0 (5 + 3 * t)) h ?_ ?_
    · simp only [fX6_tree]; rw [if_neg (fun z => (tree6 hR).mp z ha), if_pos c0, gd_pos (by omega), Int.toNat_natCast, q2]
    · simp only [fX7_tree]; rw [if_neg (fun z => (tree7 hw).mp z ha), if_pos c0, e1, gd_pos (by omega), Int.toNat_natCast]
  by_cases c1 : b = 1
  · refine Ok.same (r := σ 27 0 (6 + 3 * t)) h ?_ ?_
    · simp only [fX6_tree]; rw [if_neg (fun z => (tree6 hR).mp z ha), if_neg c0, if_pos c1, gd_pos (by omega), Int.toNat_natCast, q3]
    · simp only [fX7_tree]; rw [if_neg (fun z => (tree7 hw).mp z ha), if_neg c0, if_pos c1, e2, gd_pos (by omega), Int.toNat_natCast]
  by_cases c2 : b = 2
  · refine Ok.same (r := (onW (σ 27 0) t : Int)) h ?_ ?_
    · simp only [fX6_tree]; rw [if_neg (fun z => (tree6 hR).mp z ha), if_neg c0, if_neg c1, if_pos c2, on6 hR hw, cl_pos]
    · simp only [fX7_tree]; rw [if_neg (fun z => (tree7 hw).mp z ha), if_neg c0, if_neg c1, if_pos c2, legO7 rfl (by show 48 ≤ 48; omega) hw (by omega), cl_pos]
  by_cases c3 : b = 3
  · refine Ok.same (r := grewW (σ 27 0) t) h ?_ ?_
    · simp only [fX6_tree]
      rw [if_neg (fun z => (tree6 hR).mp z ha), if_neg c0, if_neg c1, if_neg c2, if_pos c3, growth5 (by omega) (by omega) (by omega) (by rw [hR.2.2.1]; omega), cl_pos, q1, q2, q3, hR.2.2.1]
      rfl
    · simp only [fX7_tree]
      rw [if_neg (fun z => (tree7 hw).mp z ha), if_neg c0, if_neg c1, if_neg c2, if_pos c3, e1, e2, e0, gd_pos (by omega), gd_pos (by omega), gd_pos (by omega), Int.toNat_natCast, Int.toNat_natCast, Int.toNat_natCast, grow7 b3.1 b3.2 h1.1 (by omega) b2.1 b2.2]
      rfl
  · refine Ok.same (r := -1000001) h ?_ ?_
    · simp only [fX6_tree]; rw [if_neg (fun z => (tree6 hR).mp z ha), if_neg c0, if_neg c1, if_neg c2, if_neg c3]
    · simp only [fX7_tree]; rw [if_neg (fun z => (tree7 hw).mp z ha), if_neg c0, if_neg c1, if_neg c2, if_neg c3]
def rowsN (ln : Nat → Int) : Nat → Nat
  | 0 => 0
  | n + 1 => rowsN ln n + (if ln n = -1000000 then 0 else 1)
theorem rowsN_le (ln : Nat → Int) : ∀ n, rowsN ln n ≤ n := by
  intro n
  induction n with
  | zero => exact Nat.le_refl _
  | succ n ih =>
    show rowsN ln n + (if ln n = -1000000 then 0 else 1) ≤ n + 1
    split <;> omega
theorem rows6_l {σ : Hp} (h : Sim σ) : ∀ (d c n : Nat), c + d = 8 → d + 1 ≤ n → lX6_rowsThere_4 n σ (rowsN (σ 22 0) c : Nat) c = some ((rowsN (σ 22 0) 8 : Int), σ) := by
  intro d
  induction d with
  | zero =>
    intro c n hc hn
    obtain ⟨n, rfl⟩ : ∃ m, n = m + 1 := ⟨n - 1, by omega⟩
    obtain rfl : c = 8 := by omega
    rw [lX6_rowsThere_4_e0, if_pos (by omega)]
  | succ d ih =>
    intro c n hc hn
    obtain ⟨n, rfl⟩ : ∃ m, n = m + 1 := ⟨n - 1, by omega⟩
    have hl := rowsN_le (σ 22 0) c
    have e5 : wr ((c : Int) + 1) = ((c + 1 : Nat) : Int) := by rw [wr_of (by omega) (by omega)]; omega
    have iht := ih (c + 1) n (by omega) (by omega)
    have eR : rowsN (σ 22 0) (c + 1) = rowsN (σ 22 0) c + (if σ 22 0 c = -1000000 then 0 else 1) := rfl
    rw [eR] at iht
    rw [lX6_rowsThere_4_e0, if_neg (by omega), gd_pos (by omega), Int.toNat_natCast, e5]
    have e6 : wr ((rowsN (σ 22 0) c : Int) + 1) = ((rowsN (σ 22 0) c + 1 : Nat) : Int) := by rw [wr_of (by omega) (by omega)]; omega
    have e7 : wr ((rowsN (σ 22 0) c : Int) + 0) = (rowsN (σ 22 0) c : Int) := by rw [wr_of (by omega) (by omega)]; omega
    rcases h.1 c (by omega) with q | q
    · rw [if_pos q.2, e7]
      rw [if_pos q.1, Nat.add_zero] at iht
      exact iht
    · have q1 := q.1
      have q2 := q.2.1
      rw [if_neg (by omega), e6]
      rw [if_neg (by omega)] at iht
      exact iht
theorem rows7_l {σ : Hp} : ∀ (d c n : Nat), c + d = 8 → d + 1 ≤ n → lX7_count_50 n σ (rowsN (σ 22 0) c : Nat) c = some ((rowsN (σ 22 0) 8 : Int), σ) := by
  intro d
  induction d with
  | zero =>
    intro c n hc hn
    obtain ⟨n, rfl⟩ : ∃ m, n = m + 1 := ⟨n - 1, by omega⟩
    obtain rfl : c = 8 := by omega
    rw [lX7_count_50_e0, if_pos (by omega)]
  | succ d ih =>
    intro c n hc hn
    obtain ⟨n, rfl⟩ : ∃ m, n = m + 1 := ⟨n - 1, by omega⟩
    have hl := rowsN_le (σ 22 0) c
    have e5 : wr ((c : Int) + 1) = ((c + 1 : Nat) : Int) := by rw [wr_of (by omega) (by omega)]; omega
    have iht := ih (c + 1) n (by omega) (by omega)
    have eR : rowsN (σ 22 0) (c + 1) = rowsN (σ 22 0) c + (if σ 22 0 c = -1000000 then 0 else 1) := rfl
    rw [eR] at iht
    rw [lX7_count_50_e0, if_neg (by omega), miss7 (by omega), cl_pos, e5]
    have e6 : wr ((rowsN (σ 22 0) c : Int) + 1) = ((rowsN (σ 22 0) c + 1 : Nat) : Int) := by rw [wr_of (by omega) (by omega)]; omega
    have e7 : wr ((rowsN (σ 22 0) c : Int) + 0) = (rowsN (σ 22 0) c : Int) := by rw [wr_of (by omega) (by omega)]; omega
    by_cases q : σ 22 0 c = -1000000
    · rw [if_pos q, if_neg (by omega), e7]
      rw [if_pos q, Nat.add_zero] at iht
      exact iht
    · rw [if_neg q, if_pos rfl, e6]
      rw [if_neg q] at iht
      exact iht
theorem ok_count {σ : Hp} (h : Sim σ) {a : Int} : Ok (fun τ => fX6_count τ a) (fun τ => fX7_count τ a) σ := by
  obtain ⟨hR, hw⟩ := h.2.2.1.1
  have hrd := rdW_lt hw
  by_cases c0 : a = 0
  · refine Ok.same (r := (rowsN (σ 22 0) 8 : Int)) h ?_ ?_
    · simp only [fX6_count]
      have e : fX6_rowsThere σ = some ((rowsN (σ 22 0) 8 : Int), σ) := rows6_l h 8 0 FU (by omega) (by rw [FU_eq]; omega)
      rw [if_pos c0, e, cl_pos]
    · simp only [fX7_count]
      rw [if_pos c0]
      exact rows7_l 8 0 FU (by omega) (by rw [FU_eq]; omega)
  by_cases c1 : a = 1
  · exact Ok.same (r := σ 27 0 2) h (by simp only [fX6_count]; rw [if_neg c0, if_pos c1, hR.2.2.2.1]) (by simp only [fX7_count]; rw [if_neg c0, if_pos c1])
  by_cases c2 : a = 2
  · exact Ok.same (r := σ 27 0 3) h (by simp only [fX6_count]; rw [if_neg c0, if_neg c1, if_pos c2, hR.2.2.2.2.1]) (by simp only [fX7_count]; rw [if_neg c0, if_neg c1, if_pos c2])
  by_cases c3 : a = 3
  · refine Ok.same (r := (cntB 8 (rdW (σ 27 0)) : Int)) h ?_ ?_
    · simp only [fX6_count]; rw [if_neg c0, if_neg c1, if_neg c2, if_pos c3, rd6 hR hw, cl_pos, bcN hrd]
    · simp only [fX7_count]; rw [if_neg c0, if_neg c1, if_neg c2, if_pos c3, legA7 rfl (by show 48 ≤ 48; omega) hw, cl_pos, ones7 (by omega), cl_pos]
  by_cases c4 : a = 4
  · exact Ok.same (r := σ 27 0 1) h (by simp only [fX6_count]; rw [if_neg c0, if_neg c1, if_neg c2, if_neg c3, if_pos c4, hR.2.2.1]) (by simp only [fX7_count]; rw [if_neg c0, if_neg c1, if_neg c2, if_neg c3, if_pos c4])
  by_cases c5 : a = 5
  · exact Ok.same (r := σ 27 0 0) h (by simp only [fX6_count]; rw [if_neg c0, if_neg c1, if_neg c2, if_neg c3, if_neg c4, if_pos c5, hR.2.1]) (by simp only [fX7_count]; rw [if_neg c0, if_neg c1, if_neg c2, if_neg c3, if_neg c4, if_pos c5])
  by_cases c6 : a = 6
  · exact Ok.same (r := σ 7 0 16) h (by simp only [fX6_count]; rw [if_neg c0, if_neg c1, if_neg c2, if_neg c3, if_neg c4, if_neg c5, if_pos c6, h.2.2.1.2.1.1]) (by simp only [fX7_count]; rw [if_neg c0, if_neg c1, if_neg c2, if_neg c3, if_neg c4, if_neg c5, if_pos c6])
  by_cases c7 : a = 7
  · exact Ok.same (r := σ 7 0 6) h (by simp only [fX6_count]; rw [if_neg c0, if_neg c1, if_neg c2, if_neg c3, if_neg c4, if_neg c5, if_neg c6, if_pos c7, h.2.1.1]) (by simp only [fX7_count]; rw [if_neg c0, if_neg c1, if_neg c2, if_neg c3, if_neg c4, if_neg c5, if_neg c6, if_pos c7])
  · exact Ok.same (r := -1000001) h (by simp only [fX6_count]; rw [if_neg c0, if_neg c1, if_neg c2, if_neg c3, if_neg c4, if_neg c5, if_neg c6, if_neg c7]) (by simp only [fX7_count]; rw [if_neg c0, if_neg c1, if_neg c2, if_neg c3, if_neg c4, if_neg c5, if_neg c6, if_neg c7])
/-! pairs -/
theorem pair_sp {σ : Hp} (h : Sim σ) (a b : Int) : (fX6_isPair σ a b = some (0, σ) ∧ ∀ τ : Hp, τ 27 0 = σ 27 0 → fX7_areOfOne τ a b = some (0, τ)) ∨
    ∃ x y : Nat, a = x ∧ b = y ∧ (x : Int) < σ 27 0 3 ∧ (y : Int) < σ 27 0 3 ∧ x ≠ y ∧ σ 27 0 (16 + 4 * x) = σ 27 0 (16 + 4 * y) ∧ fX6_isPair σ a b = some (1, σ) ∧ ∀ τ : Hp, τ 27 0 = σ 27 0 → fX7_areOfOne τ a b = some (1, τ) := by
  obtain ⟨hR, hw⟩ := h.2.2.1.1
  have h3 := hw.2.2.2.1
  have hwt : ∀ τ : Hp, τ 27 0 = σ 27 0 → WF 999 (τ 27 0) := fun τ e => by rw [e]; exact hw
  by_cases ha : 0 ≤ a ∧ a < σ 27 0 3
  case neg =>
    refine Or.inl ⟨?_, fun τ e => ?_⟩
    · unfold fX6_isPair; rw [if_pos ((cut6 hR).mpr ha)]
    · unfold fX7_areOfOne; rw [if_pos ((cut7_0 (hwt τ e)).mpr (by rw [e]; exact ha))]
  by_cases hb : 0 ≤ b ∧ b < σ 27 0 3
  case neg =>
    refine Or.inl ⟨?_, fun τ e => ?_⟩
    · unfold fX6_isPair; rw [if_neg (fun z => (cut6 hR).mp z ha), if_pos ((cut6 hR).mpr hb)]
    · unfold fX7_areOfOne; rw [if_neg (fun z => (cut7_0 (hwt τ e)).mp z (by rw [e]; exact ha)), if_pos ((cut7_0 (hwt τ e)).mpr (by rw [e]; exact hb))]
  by_cases hne : a = b
  case pos =>
    refine Or.inl ⟨?_, fun τ e => ?_⟩
    · unfold fX6_isPair; rw [if_neg (fun z => (cut6 hR).mp z ha), if_neg (fun z => (cut6 hR).mp z hb), if_pos hne]
    · unfold fX7_areOfOne; rw [if_neg (fun z => (cut7_0 (hwt τ e)).mp z (by rw [e]; exact ha)), if_neg (fun z => (cut7_0 (hwt τ e)).mp z (by rw [e]; exact hb)), if_pos hne]
  obtain ⟨x, rfl⟩ : ∃ k : Nat, a = k := ⟨a.toNat, by omega⟩
  obtain ⟨y, rfl⟩ : ∃ k : Nat, b = k := ⟨b.toNat, by omega⟩
  have px := (hR.2.2.2.2.2.2 x ha.2).1
  have py := (hR.2.2.2.2.2.2 y hb.2).1
  have e6 : fX6_isPair σ x y = some (if σ 27 0 (16 + 4 * x) = σ 27 0 (16 + 4 * y) then 1 else 0, σ) := by
    unfold fX6_isPair
    rw [if_neg (fun z => (cut6 hR).mp z ha), if_neg (fun z => (cut6 hR).mp z hb), if_neg hne, gd_pos (by omega), gd_pos (by omega), Int.toNat_natCast, Int.toNat_natCast, px, py]
    split <;> rfl
  have e7 : ∀ τ : Hp, τ 27 0 = σ 27 0 → fX7_areOfOne τ x y = some (if σ 27 0 (16 + 4 * x) = σ 27 0 (16 + 4 * y) then 1 else 0, τ) := fun τ e => by
    have := ofOne7 (hwt τ e) (a := x) (b := y) (by rw [e]; exact ha.2) (by rw [e]; exact hb.2) hne
    rw [e] at this
    exact this
  by_cases q : σ 27 0 (16 + 4 * x) = σ 27 0 (16 + 4 * y)
  · rw [if_pos q] at e6
    refine Or.inr ⟨x, y, rfl, rfl, ha.2, hb.2, fun z => hne (by omega), q, e6, fun τ e => ?_⟩
    have := e7 τ e
    rw [if_pos q] at this
    exact this
  · rw [if_neg q] at e6
    refine Or.inl ⟨e6, fun τ e => ?_⟩
    have := e7 τ e
    rw [if_neg q] at this
    exact this
theorem b01 {r r' : Int} {P : Prop} (h : r = 0 ∨ r = 1) (h' : r' = 0 ∨ r' = 1) (i : r = 1 ↔ P) (i' : r' = 1 ↔ P) : r = r' := by
  have := i.trans i'.symm
  omega
theorem nd_0 (a : Nat) : nd a 0 = a := by
  apply Nat.eq_of_testBit_eq
  intro i
  rw [nd_bit, Nat.zero_testBit, Bool.not_false, Bool.and_true]
theorem ok_together {σ : Hp} (h : Sim σ) {a b : Int} : Ok (fun τ => fX6_together τ a b) (fun τ => fX7_together τ a b) σ := by
  obtain ⟨hR, hw⟩ := h.2.2.1.1
  rcases pair_sp h a b with ⟨p1, p2⟩ | ⟨x, y, rfl, rfl, hx, hy, hne, -, p1, p2⟩
  · refine Ok.same (r := -1000001) h ?_ ?_
    · simp only [fX6_together]; rw [p1, cl_pos, if_pos rfl]
    · simp only [fX7_together]; rw [p2 σ rfl, cl_pos, if_pos rfl]
  obtain ⟨r, e1, r1, i1⟩ := tog6 hR hw hx hy hne
  have b27 : srow σ 10 0 (lkW (σ 27 0) (σ 10 0)) 27 0 = σ 27 0 := srow_ne (by omega)
  obtain ⟨r', e2, r2, i2⟩ := tog7 (σ := srow σ 10 0 (lkW (σ 27 0) (σ 10 0))) (s := 27) (j := 0) (g := 0) b27 (by show 48 ≤ 48; omega) hw hx hy (by omega)
  have e2' : fX7_areTogether (srow σ 10 0 (lkW (σ 27 0) (σ 10 0))) 27 0 x y 0 = some (r', srow σ 10 0 (lkW (σ 27 0) (σ 10 0))) := e2
  rw [nd_0] at i2
  have er := b01 r1 r2 i1 i2
  refine ⟨r, srow σ 10 0 (lkW (σ 27 0) (σ 10 0)), srow σ 10 0 (lkW (σ 27 0) (σ 10 0)), ?_, ?_, h.row10 (lkW (σ 27 0) (σ 10 0))⟩
  · simp only [fX6_together]
    rw [p1, cl_pos, if_neg (by omega), e1, cl_pos]
    rcases r1 with q | q
    · rw [if_pos q, q]
    · rw [if_neg (by omega), q]
  · simp only [fX7_together]
    rw [p2 _ b27, cl_pos, if_neg (by omega), e2', cl_pos, ← er]
    rcases r1 with q | q
    · rw [if_pos q, q]
    · rw [if_neg (by omega), q]
/-! rings -/
theorem rings_l {τ : Hp} {w : Wv} {Y : Int} {t v2 : Int} (e27 : τ 27 0 = w) (hw : WF Y w) (hc : τ 5 0 11 = w 3) (hA : ∀ i, i < 8 → ∃ r : Nat, τ 10 0 i = (r : Int) ∧ r < 256 ∧ ∀ k, r.testBit k = true ↔ Ac w i k) :
    ∀ (d c n m M : Nat) (k most : Int), (c : Int) + d = w 3 → d + 1 ≤ n → d + 1 ≤ m → M < 256 → (∀ i, M.testBit i = true → (onW w t).testBit i = true) → (0 ≤ k ∧ k ≤ c) →
    ∃ r : Int, lX6_rings_50 n τ v2 M k most c = some (r, τ) ∧ lX7_rings_38 m τ v2 M k most c = some (r, τ) := by
  have h3 := hw.2.2.2.1
  intro d
  induction d with
  | zero =>
    intro c n m M k most hc' hn hm hM hMo hk
    obtain ⟨n, rfl⟩ : ∃ m, n = m + 1 := ⟨n - 1, by omega⟩
    obtain ⟨m, rfl⟩ : ∃ q, m = q + 1 := ⟨m - 1, by omega⟩
    rw [lX6_rings_50_e0, if_pos (show τ 5 0 11 ≤ (c : Int) by omega), lX7_rings_38_e0, e27, if_pos (show w 3 ≤ (c : Int) by omega)]
    by_cases hv : v2 = 0
    · simp only [if_pos hv]
      exact ⟨_, rfl, rfl⟩
    · simp only [if_neg hv]
      exact ⟨_, rfl, rfl⟩
  | succ d ih =>
    intro c n m M k most hc' hn hm hM hMo hk
    obtain ⟨n, rfl⟩ : ∃ m, n = m + 1 := ⟨n - 1, by omega⟩
    obtain ⟨m, rfl⟩ : ∃ q, m = q + 1 := ⟨m - 1, by omega⟩
    have e5 : wr ((c : Int) + 1) = ((c + 1 : Nat) : Int) := by rw [wr_of (by omega) (by omega)]; omega
    rw [lX6_rings_50_e0, if_neg (show ¬ τ 5 0 11 ≤ (c : Int) by omega), lX7_rings_38_e0, e27, if_neg (show ¬ w 3 ≤ (c : Int) by omega), isInN (by omega) (by omega), hasN (by omega) (by omega), e5]
    by_cases q : M.testBit c = true
    · rw [if_pos q, if_neg (by omega), if_neg (by omega)]
      obtain ⟨r, f1, f2, f4⟩ := reach_sp (τ := τ) (A := Ac w) (a := c) (M := M) (by omega) hM hA
      obtain ⟨r', g1, g2, g4⟩ := ring7_sp (σ := τ) (s := 27) (j := 0) (a := c) e27 (by show 48 ≤ 48; omega) hw hM (by omega)
      have hrr : r = r' := by
        apply Nat.eq_of_testBit_eq
        intro i
        have hc := rch_cm (w := w) (S := fun k => M.testBit k = true) (S' := fun k => M.testBit k = true) (a := c) (k := i) (t := t) (fun k => ⟨fun z => ⟨z, (onW_bit h3.1).mp (hMo k z)⟩, fun z => z.1⟩) q
        have hi : r.testBit i = true ↔ r'.testBit i = true := by
          rw [f4, g4]
          exact ⟨fun z => ⟨q, hc.mp z⟩, fun z => hc.mpr z.2⟩
        cases z1 : r.testBit i
        · cases z2 : r'.testBit i
          · rfl
          · rw [hi.mpr z2] at z1; cases z1
        · exact (hi.mp z1).symm
      subst hrr
      rw [f1, cl_pos, g1, cl_pos, ones7 (by omega), cl_pos, bcN f2, qnotN (by omega), wr_of (x := k + 1) (by omega) (by omega)]
      have hN : nd M r < 2 ^ 8 := nd_lt hM
      have iht := fun mo => ih (c + 1) n m (nd M r) (k + 1) mo (by omega) (by omega) (by omega) hN (fun i hi => hMo i (by
        rw [nd_bit, Bool.and_eq_true] at hi
        exact hi.1)) (by omega)
      by_cases q2 : (cntB 8 r : Int) ≤ most
      · rw [if_pos q2, show qmax most (cntB 8 r : Int) = most from if_neg (by omega)]
        exact iht most
      · rw [if_neg q2, ones7 (by omega), cl_pos, show qmax most (cntB 8 r : Int) = (cntB 8 r : Int) from if_pos (by omega)]
        exact iht _
    · rw [if_neg q, if_pos rfl, if_pos rfl]
      exact ih (c + 1) n m M k most (by omega) (by omega) (by omega) hM hMo (by omega)
theorem ok_rings {σ : Hp} (h : Sim σ) {a b : Int} : Ok (fun τ => fX6_rings τ a b) (fun τ => fX7_rings τ a b) σ := by
  obtain ⟨hR, hw⟩ := h.2.2.1.1
  have h2 := hw.2.2.1
  have h3 := hw.2.2.2.1
  by_cases ha : 0 ≤ a ∧ a < σ 27 0 2
  case neg =>
    refine Ok.same (r := -1000001) h ?_ ?_
    · simp only [fX6_rings]; rw [if_pos ((tree6 hR).mpr ha)]
    · simp only [fX7_rings]; rw [if_pos ((tree7 hw).mpr ha)]
  by_cases hb : 0 ≤ b ∧ b ≤ 1
  case neg =>
    refine Ok.same (r := -1000001) h ?_ ?_
    · simp only [fX6_rings]; rw [if_neg (fun z => (tree6 hR).mp z ha), if_pos (choice6_0.mpr hb)]
    · simp only [fX7_rings]; rw [if_neg (fun z => (tree7 hw).mp z ha), if_pos (in_0.mpr hb)]
  obtain ⟨τ, hτ⟩ : ∃ τ, τ = srow σ 10 0 (lkW (σ 27 0) (σ 10 0)) := ⟨_, rfl⟩
  have e27 : τ 27 0 = σ 27 0 := by rw [hτ, srow_ne (by omega)]
  have hRτ : RelW τ 0 (σ 27 0) := by rw [hτ]; exact hR.row10 _
  obtain ⟨r, l1, l2⟩ := rings_l (τ := τ) (w := σ 27 0) (t := a) (v2 := b) e27 hw hRτ.2.2.2.2.1 (fun i hi => by
    rw [hτ, srow_at]
    exact lkW_at hw hi) (σ 27 0 3).toNat 0 FU FU (onW (σ 27 0) a) 0 0 (by omega) (by rw [FU_eq]; omega) (by rw [FU_eq]; omega) (onW_lt hw a) (fun i hi => hi) (by omega)
  have l1' : lX6_rings_50 FU τ b (onW (σ 27 0) a) 0 0 0 = some (r, τ) := l1
  have l2' : lX7_rings_38 FU τ b (onW (σ 27 0) a) 0 0 0 = some (r, τ) := l2
  refine ⟨r, τ, τ, ?_, ?_, by rw [hτ]; exact h.row10 _⟩
  · simp only [fX6_rings]
    rw [if_neg (fun z => (tree6 hR).mp z ha), if_neg (fun z => choice6_0.mp z hb), look_sp hR hw, cl_pos, ← hτ, on6 hRτ hw, cl_pos, l1']
  · simp only [fX7_rings]
    rw [if_neg (fun z => (tree7 (σ := τ) (by rw [e27]; exact hw)).mp z (by rw [e27]; exact ha)), if_neg (in_1 hb), legO7 e27 (by show 48 ≤ 48; omega) hw (by omega), cl_pos, l2']
