/-! which cuts can be read -/
theorem p2_8 {a : Nat} (h : a ≤ 8) : 2 ^ a ≤ 256 := Nat.pow_le_pow_right (n := 2) (by omega) h
def rdB (w : Wv) (c : Nat) : Bool := decide (0 < w (19 + 4 * c))
def onB (w : Wv) (t : Int) (c : Nat) : Bool := decide (0 < w (19 + 4 * c) ∧ w (16 + 4 * c) = t)
def rdW (w : Wv) : Nat := setN (w 3).toNat (rdB w)
def onW (w : Wv) (t : Int) : Nat := setN (w 3).toNat (onB w t)
theorem rdW_lt {w : Wv} {Y : Int} (hw : WF Y w) : rdW w < 256 := by
  have h3 := hw.2.2.2.1
  exact Nat.lt_of_lt_of_le (setN_lt _ _) (p2_8 (by omega))
theorem onW_lt {w : Wv} {Y : Int} (hw : WF Y w) (t : Int) : onW w t < 256 := by
  have h3 := hw.2.2.2.1
  exact Nat.lt_of_lt_of_le (setN_lt _ _) (p2_8 (by omega))
theorem onW_bit {w : Wv} {t : Int} {i : Nat} (h3 : 0 ≤ w 3) : (onW w t).testBit i = true ↔ ((i : Int) < w 3 ∧ 0 < w (19 + 4 * i) ∧ w (16 + 4 * i) = t) := by
  unfold onW onB
  rw [setN_bit, Bool.and_eq_true, decide_eq_true_eq, decide_eq_true_eq]
  omega
theorem rd6_l {σ : Hp} {j : Nat} {w : Wv} {Y : Int} (hR : RelW σ j w) (hw : WF Y w) : ∀ (d c n : Nat), (c : Int) + d = w 3 → d + 1 ≤ n → lX5_readable_4 n σ j (setN c (rdB w) : Nat) c = some ((rdW w : Int), σ) := by
  have h3 := hw.2.2.2.1
  intro d
  induction d with
  | zero =>
    intro c n hc hn
    obtain ⟨n, rfl⟩ : ∃ m, n = m + 1 := ⟨n - 1, by omega⟩
    rw [lX5_readable_4_e0, if_pos (by rw [hR.2.2.2.2.1]; omega)]
    unfold rdW
    rw [show (w 3).toNat = c by omega]
  | succ d ih =>
    intro c n hc hn
    obtain ⟨n, rfl⟩ : ∃ m, n = m + 1 := ⟨n - 1, by omega⟩
    have hcl : (c : Int) < w 3 := by omega
    have e5 : wr ((c : Int) + 1) = ((c + 1 : Nat) : Int) := by rw [wr_of (by omega) (by omega)]; omega
    have q := (hR.2.2.2.2.2.2 c hcl).2.2.2
    have u := setN_up (p := rdB w) (n := c) (by omega)
    rw [lX5_readable_4_e0, if_neg (by rw [hR.2.2.2.2.1]; omega), gd_pos (by omega), Int.toNat_natCast, q, e5]
    by_cases hz : w (19 + 4 * c) ≤ 0
    · rw [if_pos hz, qor0 (setN_lt31 _ (by omega)), u.2 (decide_eq_false (by omega))]
      exact ih (c + 1) n (by omega) (by omega)
    · rw [if_neg hz, u.1 (decide_eq_true (by omega))]
      exact ih (c + 1) n (by omega) (by omega)
theorem rd6 {σ : Hp} {j : Nat} {w : Wv} {Y : Int} (hR : RelW σ j w) (hw : WF Y w) : fX5_readable σ j = some ((rdW w : Int), σ) := by
  have h3 := hw.2.2.2.1
  unfold fX5_readable
  exact rd6_l hR hw (w 3).toNat 0 FU (by omega) (by rw [FU_eq]; omega)
def midB (w : Wv) (t : Int) (c i : Nat) : Bool := decide (0 < w (19 + 4 * i) ∧ ((i : Nat) < c → w (16 + 4 * i) = t))
theorem on6_l {σ : Hp} {j : Nat} {w : Wv} {Y : Int} {t : Int} (hR : RelW σ j w) (hw : WF Y w) : ∀ (d c n : Nat), (c : Int) + d = w 3 → d + 1 ≤ n → lX5_readableOn_7 n σ j t (setN (w 3).toNat (midB w t c) : Nat) c = some ((onW w t : Int), σ) := by
  have h3 := hw.2.2.2.1
  intro d
  induction d with
  | zero =>
    intro c n hc hn
    obtain ⟨n, rfl⟩ : ∃ m, n = m + 1 := ⟨n - 1, by omega⟩
    rw [lX5_readableOn_7_e0, if_pos (by rw [hR.2.2.2.2.1]; omega)]
    unfold onW
    have e : setN (w 3).toNat (midB w t c) = setN (w 3).toNat (onB w t) := by
      apply Nat.eq_of_testBit_eq
      intro i
      rw [setN_bit, setN_bit]
      by_cases hi : i < (w 3).toNat
      · rw [decide_eq_true hi, Bool.true_and, Bool.true_and]
        unfold midB onB
        rw [decide_eq_decide]
        constructor
        · exact fun z => ⟨z.1, z.2 (by omega)⟩
        · exact fun z => ⟨z.1, fun _ => z.2⟩
      · rw [decide_eq_false hi, Bool.false_and, Bool.false_and]
    rw [e]
  | succ d ih =>
    intro c n hc hn
    obtain ⟨n, rfl⟩ : ∃ m, n = m + 1 := ⟨n - 1, by omega⟩
    have hcl : (c : Int) < w 3 := by omega
    have e5 : wr ((c : Int) + 1) = ((c + 1 : Nat) : Int) := by rw [wr_of (by omega) (by omega)]; omega
    have q := (hR.2.2.2.2.2.2 c hcl).1
    have hlt31 : setN (w 3).toNat (midB w t c) < 2 ^ 31 := setN_lt31 _ (by omega)
    rw [lX5_readableOn_7_e0, if_neg (by rw [hR.2.2.2.2.1]; omega), gd_pos (by omega), Int.toNat_natCast, q, e5]
    by_cases ht : w (16 + 4 * c) = t
    · rw [if_pos ht]
      have e : qand (setN (w 3).toNat (midB w t c) : Nat) 255 = ((setN (w 3).toNat (midB w t (c + 1)) : Nat) : Int) := by
        refine (qandN (b := 255) (by omega)).trans ?_
        congr 1
        apply Nat.eq_of_testBit_eq
        intro i
        rw [Nat.testBit_and, setN_bit, setN_bit, show (255 : Nat) = 2 ^ 8 - 1 from rfl, Nat.testBit_two_pow_sub_one]
        by_cases hi : i < (w 3).toNat
        · rw [decide_eq_true hi, Bool.true_and, Bool.true_and, decide_eq_true (show i < 8 by omega), Bool.and_true]
          unfold midB
          rw [decide_eq_decide]
          constructor
          · intro z
            refine ⟨z.1, fun h => ?_⟩
            by_cases hic : i = c
            · rw [hic]; exact ht
            · exact z.2 (by omega)
          · exact fun z => ⟨z.1, fun h => z.2 (by omega)⟩
        · rw [decide_eq_false hi, Bool.false_and, Bool.false_and, Bool.false_and]
      rw [e]
      exact ih (c + 1) n (by omega) (by omega)
    · rw [if_neg ht]
      have e : qand (setN (w 3).toNat (midB w t c) : Nat) (qxor (qshl 1 c) (-1)) = ((setN (w 3).toNat (midB w t (c + 1)) : Nat) : Int) := by
        refine (qnotP hlt31 (by omega)).trans ?_
        congr 1
        apply Nat.eq_of_testBit_eq
        intro i
        rw [nd_bit, setN_bit, setN_bit, Nat.testBit_two_pow]
        by_cases hi : i < (w 3).toNat
        · rw [decide_eq_true hi, Bool.true_and, Bool.true_and]
          unfold midB
          by_cases hic : c = i
          · rw [decide_eq_true hic, Bool.not_true, Bool.and_false]
            symm
            rw [decide_eq_false_iff_not]
            intro z
            exact ht (by rw [hic]; exact z.2 (by omega))
          · rw [decide_eq_false hic, Bool.not_false, Bool.and_true, decide_eq_decide]
            constructor
            · exact fun z => ⟨z.1, fun h => z.2 (by omega)⟩
            · exact fun z => ⟨z.1, fun h => z.2 (by omega)⟩
        · rw [decide_eq_false hi, Bool.false_and, Bool.false_and, Bool.false_and]
      rw [e]
      exact ih (c + 1) n (by omega) (by omega)
theorem on6 {σ : Hp} {j : Nat} {w : Wv} {Y : Int} (hR : RelW σ j w) (hw : WF Y w) (t : Int) : fX5_readableOn σ j t = some ((onW w t : Int), σ) := by
  have h3 := hw.2.2.2.1
  unfold fX5_readableOn
  rw [rd6 hR hw, cl_pos]
  have e : rdW w = setN (w 3).toNat (midB w t 0) := by
    unfold rdW
    apply Nat.eq_of_testBit_eq
    intro i
    rw [setN_bit, setN_bit]
    congr 1
    unfold rdB midB
    rw [decide_eq_decide]
    exact ⟨fun z => ⟨z, fun h => absurd h (by omega)⟩, fun z => z.1⟩
  rw [e]
  exact on6_l hR hw (w 3).toNat 0 FU (by omega) (by rw [FU_eq]; omega)
theorem leg7_l {σ : Hp} {s j : Nat} {w : Wv} {Y : Int} {t : Int} {p : Nat → Bool} (e : σ s j = w) (hl : 48 ≤ alen s) (hw : WF Y w) (hp : (t = -1000000 ∧ p = rdB w) ∨ (t ≠ -1000000 ∧ p = onB w t)) : ∀ (d c n : Nat), (c : Int) + d = w 3 → d + 1 ≤ n → lX7_legible_4 n σ s j t (setN c p : Nat) c = some ((setN (w 3).toNat p : Int), σ) := by
  have h3 := hw.2.2.2.1
  have hla : (48 : Int) ≤ (alen s : Int) := by omega
  intro d
  induction d with
  | zero =>
    intro c n hc hn
    obtain ⟨n, rfl⟩ : ∃ m, n = m + 1 := ⟨n - 1, by omega⟩
    rw [lX7_legible_4_e0, gd_pos (by omega), e, if_pos (by omega), show (w 3).toNat = c by omega]
  | succ d ih =>
    intro c n hc hn
    obtain ⟨n, rfl⟩ : ∃ m, n = m + 1 := ⟨n - 1, by omega⟩
    have hcl : (c : Int) < w 3 := by omega
    have e5 : wr ((c : Int) + 1) = ((c + 1 : Nat) : Int) := by rw [wr_of (by omega) (by omega)]; omega
    have e3 : wr (wr (16 + wr (4 * (c : Int))) + 3) = ((19 + 4 * c : Nat) : Int) := by
      rw [wr16c (by omega), wr_of (by omega) (by omega)]; omega
    have u := setN_up (p := p) (n := c) (by omega)
    rw [lX7_legible_4_e0, gd_pos (by omega), e, if_neg (by omega), e3, gd_pos (by omega), Int.toNat_natCast, e5, wr16c (by omega)]
    have iht := ih (c + 1) n (by omega) (by omega)
    by_cases hz : w (19 + 4 * c) ≤ 0
    · rw [if_pos hz, qor0 (setN_lt31 _ (by omega)), u.2 (by
        rcases hp with q | q
        · rw [q.2]; exact decide_eq_false (by omega)
        · rw [q.2]; exact decide_eq_false (fun z => by omega))]
      exact iht
    · rw [if_neg hz]
      rcases hp with q | q
      · rw [if_pos q.1, u.1 (by rw [q.2]; exact decide_eq_true (by omega))]
        exact iht
      · rw [if_neg q.1, gd_pos (by omega), Int.toNat_natCast]
        by_cases ht : w (16 + 4 * c) = t
        · rw [if_pos ht, u.1 (by rw [q.2]; exact decide_eq_true ⟨by omega, ht⟩)]
          exact iht
        · rw [if_neg ht, qor0 (setN_lt31 _ (by omega)), u.2 (by rw [q.2]; exact decide_eq_false (fun z => ht z.2))]
          exact iht
theorem legA7 {σ : Hp} {s j : Nat} {w : Wv} {Y : Int} (e : σ s j = w) (hl : 48 ≤ alen s) (hw : WF Y w) : fX7_legible σ s j (-1000000) = some ((rdW w : Int), σ) := by
  have h3 := hw.2.2.2.1
  unfold fX7_legible
  exact leg7_l e hl hw (Or.inl ⟨rfl, rfl⟩) (w 3).toNat 0 FU (by omega) (by rw [FU_eq]; omega)
theorem legO7 {σ : Hp} {s j : Nat} {w : Wv} {Y : Int} {t : Int} (e : σ s j = w) (hl : 48 ≤ alen s) (hw : WF Y w) (ht : t ≠ -1000000) : fX7_legible σ s j t = some ((onW w t : Int), σ) := by
  have h3 := hw.2.2.2.1
  unfold fX7_legible
  exact leg7_l e hl hw (Or.inr ⟨ht, rfl⟩) (w 3).toNat 0 FU (by omega) (by rw [FU_eq]; omega)
