/-! ROWS -/
def filF (f : Nat → Int) (a b : Nat) (v : Int) : Nat → Int := fun x => if a ≤ x ∧ x < b then v else f x
theorem filF_step (f : Nat → Int) {a b : Nat} (v : Int) (h : a < b) : filF (up1 f a v) (a + 1) b v = filF f a b v := by
  funext x
  unfold filF up1
  by_cases h1 : x = a
  · rw [if_neg (by omega), if_pos h1, if_pos (by omega)]
  · rw [if_neg h1]
    by_cases h2 : a ≤ x ∧ x < b
    · rw [if_pos h2, if_pos (by omega)]
    · rw [if_neg h2, if_neg (by omega)]
theorem filF_end (f : Nat → Int) {a b : Nat} (v : Int) (h : b ≤ a) : filF f a b v = f := by
  funext x
  unfold filF
  rw [if_neg (by omega)]
theorem fill_l {s j : Nat} {v : Int} {N : Nat} (ha : alen s = N) (hN : N < 100000) : ∀ (d c n : Nat) (σ : Hp), c + d = N → d + 1 ≤ n → lJ7_fill_53178_5 n σ s j v c (N : Int) = some (0, srow σ s j (filF (σ s j) c N v)) := by
  intro d
  induction d with
  | zero =>
    intro c n σ hc hn
    obtain ⟨n, rfl⟩ : ∃ m, n = m + 1 := ⟨n - 1, by omega⟩
    rw [lJ7_fill_53178_5_e0, if_pos (by omega), filF_end _ _ (by omega), srow_self]
  | succ d ih =>
    intro c n σ hc hn
    obtain ⟨n, rfl⟩ : ∃ m, n = m + 1 := ⟨n - 1, by omega⟩
    have e5 : wr ((c : Int) + 1) = ((c + 1 : Nat) : Int) := by rw [wr_of (by omega) (by omega)]; omega
    rw [lJ7_fill_53178_5_e0, if_neg (by omega), gd_pos (by rw [ha]; omega), Int.toNat_natCast]
    simp only [sq]
    rw [e5, ih (c + 1) n _ (by omega) (by omega), hup_row, srow_at, srow_srow, filF_step _ _ (by omega)]
theorem fill_sp (σ : Hp) {s j : Nat} (v : Int) {N : Nat} (ha : alen s = N) (h0 : 0 < N) (hN : N < 99999) : fJ7_fill_53178 σ s j v = some (0, srow σ s j (filF (σ s j) 0 N v)) := by
  unfold fJ7_fill_53178
  rw [gd_pos (by omega), ha]
  exact fill_l ha (by omega) N 0 FU σ (by omega) (by rw [FU_eq]; omega)
theorem row7_l {r : Nat} {v3 : Int} (hr : r < 8) : ∀ (d c n : Nat) (σ : Hp), c + d = 40 → d + 1 ≤ n → lX7_row_52 n σ r v3 c = some (v3, hup (srow σ 24 0 (filF (σ 24 0) (40 * r + c) (40 * r + 40) 0)) 7 0 4 0) := by
  intro d
  induction d with
  | zero =>
    intro c n σ hc hn
    obtain ⟨n, rfl⟩ : ∃ m, n = m + 1 := ⟨n - 1, by omega⟩
    rw [lX7_row_52_e0, if_pos (by omega), filF_end _ _ (by omega), srow_self]
    rfl
  | succ d ih =>
    intro c n σ hc hn
    obtain ⟨n, rfl⟩ : ∃ m, n = m + 1 := ⟨n - 1, by omega⟩
    have e5 : wr ((c : Int) + 1) = ((c + 1 : Nat) : Int) := by rw [wr_of (by omega) (by omega)]; omega
    have e1 : wr (wr (40 * (r : Int)) + c) = ((40 * r + c : Nat) : Int) := by rw [wr_of (x := 40 * (r : Int)) (by omega) (by omega), wr_of (by omega) (by omega)]; omega
    rw [lX7_row_52_e0, if_neg (by omega), e1, gd_pos (by omega), Int.toNat_natCast]
    simp only [sq]
    rw [e5, ih (c + 1) n _ (by omega) (by omega), hup_row σ, srow_at, srow_srow, show 40 * r + (c + 1) = 40 * r + c + 1 by omega, filF_step _ _ (by omega)]
theorem SR.upd {a3 a11 b3 b11 : Nat → Nat → Int} {ln mn it ln' mn' it' : Nat → Int} {r : Nat} (h : SR a3 a11 ln mn it) (o3 : ∀ j, j ≠ r → b3 j = a3 j) (o11 : ∀ j, j ≠ r → b11 j = a11 j) (ol : ∀ j, j ≠ r → ln' j = ln j) (om : ∀ j, j ≠ r → mn' j = mn j) (oi : ∀ j, j ≠ r → ∀ k, k < 40 → it' (40 * j + k) = it (40 * j + k))
    (hr : (ln' r = -1000000 ∧ b3 r 1 = 0) ∨ ((0 ≤ ln' r ∧ ln' r ≤ 2) ∧ b3 r 1 = 1 ∧ b3 r 2 = ln' r ∧ b3 r 3 = mn' r ∧ (0 ≤ mn' r ∧ mn' r ≤ 40) ∧ ∀ k, k < 40 → b11 r k = it' (40 * r + k))) : SR b3 b11 ln' mn' it' := by
  intro j hj
  by_cases e : j = r
  · subst e; exact hr
  · rw [o3 j e, o11 j e, ol j e, om j e]
    rcases h j hj with q | q
    · exact Or.inl q
    · exact Or.inr ⟨q.1, q.2.1, q.2.2.1, q.2.2.2.1, q.2.2.2.2.1, fun k hk => by rw [oi j e k hk]; exact q.2.2.2.2.2 k hk⟩
/-- a change of rows alone, and of the status -/
theorem Sim.rows {σ σ' : Hp} (h : Sim σ) (ho : ∀ s j, s ≠ 3 → s ≠ 11 → s ≠ 22 → s ≠ 23 → s ≠ 24 → s ≠ 25 → s ≠ 6 → s ≠ 7 → σ' s j = σ s j) (h6 : ∀ k, k ≠ 9 → σ' 6 0 k = σ 6 0 k) (h7 : ∀ k, k ≠ 4 → σ' 7 0 k = σ 7 0 k) (hs : σ' 6 0 9 = σ' 7 0 4) (hR : SR (σ' 3) (σ' 11) (σ' 22 0) (σ' 23 0) (σ' 24 0)) : Sim σ' := by
  obtain ⟨a1, a2, a3, a4, a5, a6, a7⟩ := h
  have wo : ∀ s j, isW s → σ' s j = σ s j := fun s j hw => ho s j (by rcases hw with q | q <;> omega) (by rcases hw with q | q <;> omega) (by rcases hw with q | q <;> omega) (by rcases hw with q | q <;> omega) (by rcases hw with q | q <;> omega) (by rcases hw with q | q <;> omega) (by rcases hw with q | q <;> omega) (by rcases hw with q | q <;> omega)
  have o : ∀ s j, (s = 12 ∨ s = 4 ∨ s = 26 ∨ s = 0 ∨ s = 8 ∨ s = 33 ∨ s = 27 ∨ s = 1 ∨ s = 29 ∨ s = 31 ∨ s = 30) → σ' s j = σ s j := fun s j hz => ho s j (by omega) (by omega) (by omega) (by omega) (by omega) (by omega) (by omega) (by omega)
  refine ⟨hR, ?_, a3.cg (fun s j hw _ => wo s j hw) (o 27 0 (by omega)) (by rw [o 1 0 (by omega)]) (by rw [o 1 0 (by omega)]) (o 29 0 (by omega)) (h7 16 (by omega)) (o 31 0 (by omega)) (o 30 0 (by omega)), ?_, ?_, hs, a7.cg (fun j _ => wo 5 j (Or.inl rfl)) (by rw [wo 5 1 (Or.inl rfl)]; exact a7 1 (by omega))⟩
  · rw [o 12 0 (by omega), o 4 0 (by omega), o 26 0 (by omega), h7 6 (by omega)]; exact a2
  · rw [o 0 0 (by omega), o 8 0 (by omega), o 33 0 (by omega), h7 21 (by omega)]; exact a4
  · rw [h6 8 (by omega), h7 7 (by omega)]; exact a5
theorem ok_row {σ : Hp} (h : Sim σ) {a b c : Int} : Ok (fun τ => fX6_row τ a b c) (fun τ => fX7_row τ a b c) σ := by
  by_cases hr : 0 ≤ a ∧ a < 8
  case neg =>
    refine Ok.same (r := -1000001) h ?_ ?_
    · simp only [fX6_row]; rw [if_pos (row6_0.mpr hr)]
    · simp only [fX7_row]; rw [if_pos (row7_0.mpr hr)]
  by_cases hb : 0 ≤ b ∧ b ≤ 2
  case neg =>
    refine Ok.same (r := -1000001) h ?_ ?_
    · simp only [fX6_row]; rw [if_neg (fun z => row6_0.mp z hr)]
      by_cases hb0 : b < 0
      · rw [if_pos hb0]
      · rw [if_neg hb0, if_pos (by omega)]
    · simp only [fX7_row]; rw [if_neg (fun z => row7_0.mp z hr), if_pos (in_0.mpr hb)]
  by_cases hc : c ≤ 40
  case neg =>
    refine Ok.same (r := -1000001) h ?_ ?_
    · simp only [fX6_row]; rw [if_neg (fun z => row6_0.mp z hr), if_neg (by omega), if_neg (by omega), if_neg hc]
    · simp only [fX7_row]; rw [if_neg (fun z => row7_0.mp z hr), if_neg (in_1 hb), if_neg hc]
  by_cases hc0 : 0 ≤ c
  case neg =>
    refine Ok.found (v := 4) h (by omega) ?_ (fun τ _ => ?_)
    · simp only [fX6_row]; rw [if_neg (fun z => row6_0.mp z hr), if_neg (by omega), if_neg (by omega), if_pos hc, if_neg hc0]; rfl
    · simp only [fX7_row]; rw [if_neg (fun z => row7_0.mp z hr), if_neg (in_1 hb), if_pos hc, if_neg hc0]; rfl
  obtain ⟨r, rfl⟩ : ∃ r : Nat, a = r := ⟨a.toNat, by omega⟩
  have hr8 : r < 8 := by omega
  have e1 : fX6_row σ r b c = some (c, hup (srow (hup (hup (hup σ 3 r 1 1) 3 r 2 b) 3 r 3 c) 11 r (filF (σ 11 r) 0 40 0)) 6 0 9 0) := by
    unfold fX6_row
    rw [if_neg (fun z => row6_0.mp z hr), if_neg (by omega), if_neg (by omega), if_pos hc, if_pos hc0, gd_pos (by omega), Int.toNat_natCast]
    unfold fX3_begin
    simp only [sq]
    rw [fill_sp _ 0 (N := 40) rfl (by omega) (by omega), cl_pos, cl_pos]
    rw [hup_s (by omega), hup_s (by omega), hup_s (by omega)]
    rfl
  refine ⟨c, _, ?_, e1, ?_, ?_⟩
  · exact hup (srow (hup (hup (hup (srow (hup (hup (hup σ 3 r 1 1) 3 r 2 b) 3 r 3 c) 11 r (filF (σ 11 r) 0 40 0)) 6 0 9 0) 22 0 r b) 23 0 r c) 24 0 (filF (σ 24 0) (40 * r + 0) (40 * r + 40) 0)) 7 0 4 0
  · simp only [fX7_row]
    rw [if_neg (fun z => row7_0.mp z hr), if_neg (in_1 hb), if_pos hc, if_pos hc0, gd_pos (by omega), Int.toNat_natCast]
    simp only [sq]
    rw [gd_pos (by omega)]
    have e := row7_l (v3 := c) hr8 40 0 FU (hup (hup (hup (srow (hup (hup (hup σ 3 r 1 1) 3 r 2 b) 3 r 3 c) 11 r (filF (σ 11 r) 0 40 0)) 6 0 9 0) 22 0 r b) 23 0 r c) rfl (by rw [FU_eq]; omega)
    rw [show ((0 : Nat) : Int) = 0 from rfl] at e
    rw [e, hup_s (by omega), hup_s (by omega), hup_s (by omega), srow_ne (by omega), hup_s (by omega), hup_s (by omega), hup_s (by omega)]
  · refine h.rows (fun s j h3 h11 h22 h23 h24 h25 h6 h7 => ?_) (fun k hk => ?_) (fun k hk => ?_) ?_ ?_
    · rw [hup_s h7, srow_ne (by omega), hup_s h23, hup_s h22, hup_s h6, srow_ne (by omega), hup_s h3, hup_s h3, hup_s h3]
    · rw [hup_s (by omega), srow_ne (by omega), hup_s (by omega), hup_s (by omega), hup_k hk, srow_ne (by omega), hup_s (by omega), hup_s (by omega), hup_s (by omega)]
    · rw [hup_k hk, srow_ne (by omega), hup_s (by omega), hup_s (by omega), hup_s (by omega), srow_ne (by omega), hup_s (by omega), hup_s (by omega), hup_s (by omega)]
    · rw [hup_at, hup_s (by omega), srow_ne (by omega), hup_s (by omega), hup_s (by omega), hup_at]
    · refine h.1.upd (r := r) (fun j hj => ?_) (fun j hj => ?_) (fun j hj => ?_) (fun j hj => ?_) (fun j hj k hk => ?_) (Or.inr ⟨?_, ?_, ?_, ?_, ?_, fun k hk => ?_⟩)
      · rw [hup_s (by omega), srow_ne (by omega), hup_s (by omega), hup_s (by omega), hup_s (by omega), srow_ne (by omega), hup_j hj, hup_j hj, hup_j hj]
      · rw [hup_s (by omega), srow_ne (by omega), hup_s (by omega), hup_s (by omega), hup_s (by omega), srow_ne (by omega), hup_s (by omega), hup_s (by omega), hup_s (by omega)]
      · rw [hup_s (by omega), srow_ne (by omega), hup_s (by omega), hup_k hj, hup_s (by omega), srow_ne (by omega), hup_s (by omega), hup_s (by omega), hup_s (by omega)]
      · rw [hup_s (by omega), srow_ne (by omega), hup_k hj, hup_s (by omega), hup_s (by omega), srow_ne (by omega), hup_s (by omega), hup_s (by omega), hup_s (by omega)]
      · rw [hup_s (by omega), srow_at]
        unfold filF
        rw [if_neg (by omega)]
      · rw [hup_s (by omega), srow_ne (by omega), hup_s (by omega), hup_at]
        exact hb
      · rw [hup_s (by omega), srow_ne (by omega), hup_s (by omega), hup_s (by omega), hup_s (by omega), srow_ne (by omega), hup_k (by omega), hup_k (by omega), hup_at]
      · rw [hup_s (by omega), srow_ne (by omega), hup_s (by omega), hup_s (by omega), hup_s (by omega), srow_ne (by omega), hup_k (by omega), hup_at, hup_s (by omega), srow_ne (by omega), hup_s (by omega), hup_at]
      · rw [hup_s (by omega), srow_ne (by omega), hup_s (by omega), hup_s (by omega), hup_s (by omega), srow_ne (by omega), hup_at, hup_s (by omega), srow_ne (by omega), hup_at]
      · rw [hup_s (by omega), srow_ne (by omega), hup_at]
        omega
      · rw [hup_s (by omega), srow_ne (by omega), hup_s (by omega), hup_s (by omega), hup_s (by omega), srow_at, hup_s (by omega), srow_at]
        unfold filF
        rw [if_pos (by omega), if_pos (by omega)]
