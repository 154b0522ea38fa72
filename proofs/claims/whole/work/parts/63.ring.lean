/-! which cuts are together: all that a path of A within S reaches from a -/
def Rch (S : Nat → Prop) (A : Nat → Nat → Prop) (a k : Nat) : Prop := ∀ T : Nat → Prop, T a → (∀ i k, T i → S k → A i k → T k) → T k
theorem Rch.rf {S : Nat → Prop} {A : Nat → Nat → Prop} {a : Nat} : Rch S A a a := fun _ h _ => h
theorem Rch.step {S : Nat → Prop} {A : Nat → Nat → Prop} {a i k : Nat} (h : Rch S A a i) (hs : S k) (ha : A i k) : Rch S A a k := fun T h1 h2 => h2 i k (h T h1 h2) hs ha
theorem cntB_mono {m m' : Nat} (h : ∀ i, m.testBit i = true → m'.testBit i = true) : ∀ n, cntB n m ≤ cntB n m' := by
  intro n
  induction n with
  | zero => exact Nat.le_refl _
  | succ n ih =>
    show cntB n m + (if m.testBit n = true then 1 else 0) ≤ cntB n m' + (if m'.testBit n = true then 1 else 0)
    by_cases q : m.testBit n = true
    · rw [if_pos q, if_pos (h n q)]; omega
    · rw [if_neg q]; omega
theorem cntB_lt {m m' i : Nat} (h : ∀ i, m.testBit i = true → m'.testBit i = true) (h1 : m'.testBit i = true) (h0 : ¬ m.testBit i = true) : ∀ n, i < n → cntB n m < cntB n m' := by
  intro n
  induction n with
  | zero => intro hi; omega
  | succ n ih =>
    intro hi
    have hm := cntB_mono h n
    show cntB n m + (if m.testBit n = true then 1 else 0) < cntB n m' + (if m'.testBit n = true then 1 else 0)
    by_cases e : i = n
    · subst e
      rw [if_neg h0, if_pos h1]; omega
    · have := ih (by omega)
      by_cases q : m.testBit n = true
      · rw [if_pos q, if_pos (h n q)]; omega
      · rw [if_neg q]; omega
theorem bit_ex {m : Nat} (h : m ≠ 0) : ∃ i, m.testBit i = true := by
  apply Classical.byContradiction
  intro hn
  apply h
  apply Nat.eq_of_testBit_eq
  intro i
  rw [Nat.zero_testBit]
  cases q : m.testBit i
  · rfl
  · exact absurd ⟨i, q⟩ hn
theorem bit_lt {m i n : Nat} (h : m < 2 ^ n) (hb : m.testBit i = true) : i < n := by
  apply Classical.byContradiction
  intro hn
  have h2 : m.testBit i = false := Nat.testBit_lt_two_pow (Nat.lt_of_lt_of_le h (Nat.pow_le_pow_right (by omega) (by omega)))
  rw [h2] at hb
  cases hb
/-! the class: what can be read as one with each -/
abbrev Ac (w : Wv) (i k : Nat) : Prop := (i : Int) < w 3 ∧ (k : Int) < w 3 ∧ i ≠ k ∧ bothW w i k ∧ apartW w i k ≤ w 0
abbrev Am (w : Wv) (i k : Nat) : Prop := (i : Int) < w 3 ∧ (k : Int) < w 3 ∧ apartW w i k ≤ w 0
theorem one6 {σ : Hp} {w : Wv} {j a b : Nat} {Y : Int} (hR : RelW σ j w) (hw : WF Y w) (ha : (a : Int) < w 3) (hb : (b : Int) < w 3) : fX5_readAsOne σ j a b = some (if bothW w a b ∧ apartW w a b ≤ w 0 then 1 else 0, σ) := by
  unfold fX5_readAsOne
  rw [both6 hR hw ha hb, cl_pos]
  by_cases c : bothW w a b
  · rw [if_pos c, if_neg (by omega), apart6 hR hw ha hb, cl_pos, hR.2.1]
    by_cases c2 : w 0 < apartW w a b
    · rw [if_pos c2, if_neg (fun z => by omega)]
    · rw [if_neg c2, if_pos ⟨c, by omega⟩]
  · rw [if_neg c, if_pos rfl, if_neg (fun z => c z.1)]
def asB (w : Wv) (i k : Nat) : Bool := decide (i ≠ k ∧ bothW w i k ∧ apartW w i k ≤ w 0)
def lkR (w : Wv) (f : Nat → Int) (a b : Nat) : Nat → Int := fun x => if 8 ≤ x then f x else ((setN (if x < a then (w 3).toNat else if x = a then b else 0) (asB w x) : Nat) : Int)
theorem lkR_at {w : Wv} {f : Nat → Int} {a b : Nat} (ha : a < 8) : lkR w f a b a = ((setN b (asB w a) : Nat) : Int) := by
  unfold lkR
  rw [if_neg (by omega), if_neg (by omega), if_pos rfl]
theorem lkR_up {w : Wv} {f : Nat → Int} {a b : Nat} (ha : a < 8) : up1 (lkR w f a b) a ((setN (b + 1) (asB w a) : Nat) : Int) = lkR w f a (b + 1) := by
  funext x
  unfold up1
  by_cases e : x = a
  · rw [if_pos e, e, lkR_at ha]
  · rw [if_neg e]
    unfold lkR
    rw [if_neg e, if_neg e]
theorem lkR_same {w : Wv} {f : Nat → Int} {a b : Nat} (ha : a < 8) (h : asB w a b = false) : lkR w f a b = lkR w f a (b + 1) := by
  rw [← lkR_up ha]
  funext x
  unfold up1
  by_cases e : x = a
  · rw [if_pos e, e, lkR_at ha]
    show _ = ((if asB w a b = true then setN b (asB w a) ||| 2 ^ b else setN b (asB w a) : Nat) : Int)
    rw [if_neg (by rw [h]; decide)]
  · rw [if_neg e]
theorem lkR_next {w : Wv} {f : Nat → Int} {a : Nat} : lkR w f a (w 3).toNat = lkR w f (a + 1) 0 := by
  funext x
  unfold lkR
  by_cases h8 : 8 ≤ x
  · rw [if_pos h8, if_pos h8]
  · rw [if_neg h8, if_neg h8]
    by_cases h1 : x < a
    · rw [if_pos h1, if_pos (by omega)]
    · rw [if_neg h1]
      by_cases h2 : x = a
      · rw [if_pos h2, if_pos (by omega)]
      · rw [if_neg h2, if_neg (by omega)]
        split <;> rfl
theorem isW_10 {s : Nat} (h : isW s) : s ≠ 10 := by
  rcases h with q | q <;> omega
theorem RelW.row10 {σ : Hp} {j : Nat} {w : Wv} (h : RelW σ j w) (g : Nat → Int) : RelW (srow σ 10 0 g) j w := h.cg (fun s hs => srow_ne (fun z => isW_10 hs z.1))
theorem look_in {σ : Hp} {j : Nat} {w : Wv} {Y : Int} {f : Nat → Int} (hR : RelW σ j w) (hw : WF Y w) {a : Nat} (ha : (a : Int) < w 3) {res : Option (Int × Hp)} {K : Nat}
    (hk : ∀ m, K ≤ m → lX2_lookAt_10 m 0 (srow σ 10 0 (lkR w f (a + 1) 0)) j ((a + 1 : Nat) : Int) 0 = res) :
    ∀ (d b n : Nat), (b : Int) + d = w 3 → K + d + 1 ≤ n → lX2_lookAt_10 n 1 (srow σ 10 0 (lkR w f a b)) j a b = res := by
  have h3 := hw.2.2.2.1
  have ea : wr ((a : Int) + 1) = ((a + 1 : Nat) : Int) := by rw [wr_of (by omega) (by omega)]; omega
  intro d
  induction d with
  | zero =>
    intro b n hb hn
    obtain ⟨n, rfl⟩ : ∃ m, n = m + 1 := ⟨n - 1, by omega⟩
    rw [lX2_lookAt_10_e1, if_pos (by rw [(hR.row10 _).2.2.2.2.1]; omega), ea, show b = (w 3).toNat by omega, lkR_next]
    exact hk n (by omega)
  | succ d ih =>
    intro b n hb hn
    obtain ⟨n, rfl⟩ : ∃ m, n = m + 1 := ⟨n - 1, by omega⟩
    have hbl : (b : Int) < w 3 := by omega
    have eb : wr ((b : Int) + 1) = ((b + 1 : Nat) : Int) := by rw [wr_of (by omega) (by omega)]; omega
    have iht := ih (b + 1) n (by omega) (by omega)
    rw [lX2_lookAt_10_e1, if_neg (by rw [(hR.row10 _).2.2.2.2.1]; omega), eb]
    by_cases e : (a : Int) = b
    · rw [if_pos e, lkR_same (by omega) (decide_eq_false (fun z => z.1 (by omega)))]
      exact iht
    · rw [if_neg e, one6 (hR.row10 _) hw ha hbl, cl_pos]
      by_cases c : bothW w a b ∧ apartW w a b ≤ w 0
      · have hB : asB w a b = true := decide_eq_true ⟨fun z => e (by omega), c⟩
        rw [if_pos c, if_neg (by omega), gd_pos (by omega), gd_pos (by omega), Int.toNat_natCast, srow_at, lkR_at (by omega), (setN_up (p := asB w a) (n := b) (by omega)).1 hB]
        simp only [sq]
        rw [hup_srow, lkR_up (by omega)]
        exact iht
      · rw [if_neg c, if_pos rfl, lkR_same (by omega) (decide_eq_false (fun z => c z.2))]
        exact iht
theorem look_out {σ : Hp} {j : Nat} {w : Wv} {Y : Int} {f : Nat → Int} (hR : RelW σ j w) (hw : WF Y w) : ∀ (d a n : Nat), (a : Int) + d = w 3 → 20 * d + 1 ≤ n →
    lX2_lookAt_10 n 0 (srow σ 10 0 (lkR w f a 0)) j a 0 = some (0, srow σ 10 0 (lkR w f (w 3).toNat 0)) := by
  have h3 := hw.2.2.2.1
  intro d
  induction d with
  | zero =>
    intro a n ha hn
    obtain ⟨n, rfl⟩ : ∃ m, n = m + 1 := ⟨n - 1, by omega⟩
    rw [lX2_lookAt_10_e0, if_pos (by rw [(hR.row10 _).2.2.2.2.1]; omega), show a = (w 3).toNat by omega]
  | succ d ih =>
    intro a n ha hn
    obtain ⟨n, rfl⟩ : ∃ m, n = m + 1 := ⟨n - 1, by omega⟩
    rw [lX2_lookAt_10_e0, if_neg (by rw [(hR.row10 _).2.2.2.2.1]; omega)]
    exact look_in hR hw (by omega) (K := 20 * d + 1) (fun m hm => ih (a + 1) m (by omega) hm) (w 3).toNat 0 n (by omega) (by omega)
/-- the row that a look lays -/
def lkW (w : Wv) (f : Nat → Int) : Nat → Int := lkR w f (w 3).toNat 0
theorem look_sp {σ : Hp} {j : Nat} {w : Wv} {Y : Int} (hR : RelW σ j w) (hw : WF Y w) : fX2_lookAt σ j = some (0, srow σ 10 0 (lkW w (σ 10 0))) := by
  have h3 := hw.2.2.2.1
  unfold fX2_lookAt
  rw [fill_sp σ (s := 10) (j := 0) 0 (N := 8) rfl (by omega) (by omega), cl_pos]
  have e : filF (σ 10 0) 0 8 0 = lkR w (σ 10 0) 0 0 := by
    funext x
    unfold filF lkR
    by_cases h8 : 8 ≤ x
    · rw [if_neg (by omega), if_pos h8]
    · rw [if_pos (by omega), if_neg h8, if_neg (by omega)]
      split <;> rfl
  rw [e]
  exact look_out hR hw (w 3).toNat 0 FU (by omega) (by rw [FU_eq]; omega)
theorem lkW_at {w : Wv} {f : Nat → Int} {i : Nat} {Y : Int} (hw : WF Y w) (hi : i < 8) : ∃ m : Nat, lkW w f i = (m : Int) ∧ m < 256 ∧ ∀ k, m.testBit k = true ↔ Ac w i k := by
  have h3 := hw.2.2.2.1
  refine ⟨setN (if i < (w 3).toNat then (w 3).toNat else if i = (w 3).toNat then 0 else 0) (asB w i), by unfold lkW lkR; exact if_neg (by omega), ?_, ?_⟩
  · refine Nat.lt_of_lt_of_le (setN_lt _ _) (p2_8 ?_)
    split
    · omega
    · split <;> omega
  · intro k
    rw [setN_bit, Bool.and_eq_true, decide_eq_true_eq]
    unfold asB
    rw [decide_eq_true_eq]
    unfold Ac
    by_cases q : i < (w 3).toNat
    · rw [if_pos q]
      exact ⟨fun z => ⟨by have := z.1; omega, by have := z.1; omega, z.2⟩, fun z => ⟨by have := z.2.1; omega, z.2.2⟩⟩
    · rw [if_neg q]
      refine ⟨fun z => ?_, fun z => by have := z.1; omega⟩
      have := z.1
      split at this <;> omega
/-! the class: all that are reached -/
theorem next_l {τ : Hp} {A : Nat → Nat → Prop} {m : Nat} (hm : m < 256) (hA : ∀ i, i < 8 → ∃ r : Nat, τ 10 0 i = (r : Int) ∧ r < 256 ∧ ∀ k, r.testBit k = true ↔ A i k) : ∀ (d c n acc : Nat), c + d = 8 → d + 1 ≤ n → acc < 256 →
    ∃ r : Nat, lX2_nextTo_4 n τ m acc c = some ((r : Int), τ) ∧ r < 256 ∧ ∀ k, r.testBit k = true ↔ (acc.testBit k = true ∨ ∃ i, c ≤ i ∧ i < 8 ∧ m.testBit i = true ∧ A i k) := by
  intro d
  induction d with
  | zero =>
    intro c n acc hc hn ha
    obtain ⟨n, rfl⟩ : ∃ m, n = m + 1 := ⟨n - 1, by omega⟩
    refine ⟨acc, by rw [lX2_nextTo_4_e0, if_pos (by omega)], ha, fun k => ⟨Or.inl, fun z => ?_⟩⟩
    rcases z with z | ⟨i, h1, h2, -⟩
    · exact z
    · omega
  | succ d ih =>
    intro c n acc hc hn ha
    obtain ⟨n, rfl⟩ : ∃ m, n = m + 1 := ⟨n - 1, by omega⟩
    have e5 : wr ((c : Int) + 1) = ((c + 1 : Nat) : Int) := by rw [wr_of (by omega) (by omega)]; omega
    rw [lX2_nextTo_4_e0, if_neg (by omega), isInN (by omega) (by omega), e5]
    by_cases q : m.testBit c = true
    · obtain ⟨r, e, hr, hb⟩ := hA c (by omega)
      rw [if_pos q, if_neg (by omega), gd_pos (by omega), Int.toNat_natCast, e, qorN (by omega) (by omega)]
      obtain ⟨r2, e2, hr2, hb2⟩ := ih (c + 1) n (acc ||| r) (by omega) (by omega) (Nat.or_lt_two_pow (n := 8) ha hr)
      refine ⟨r2, e2, hr2, fun k => ?_⟩
      rw [hb2, Nat.testBit_or, Bool.or_eq_true, hb]
      constructor
      · rintro ((z | z) | ⟨i, h1, h2, h3⟩)
        · exact Or.inl z
        · exact Or.inr ⟨c, by omega, by omega, q, z⟩
        · exact Or.inr ⟨i, by omega, h2, h3⟩
      · rintro (z | ⟨i, h1, h2, h3, h4⟩)
        · exact Or.inl (Or.inl z)
        · by_cases e : i = c
          · subst e; exact Or.inl (Or.inr h4)
          · exact Or.inr ⟨i, by omega, h2, h3, h4⟩
    · rw [if_neg q, if_pos rfl, qor0 (by omega)]
      obtain ⟨r2, e2, hr2, hb2⟩ := ih (c + 1) n acc (by omega) (by omega) ha
      refine ⟨r2, e2, hr2, fun k => ?_⟩
      rw [hb2]
      constructor
      · rintro (z | ⟨i, h1, h2, h3⟩)
        · exact Or.inl z
        · exact Or.inr ⟨i, by omega, h2, h3⟩
      · rintro (z | ⟨i, h1, h2, h3, h4⟩)
        · exact Or.inl z
        · by_cases e : i = c
          · subst e; exact absurd h3 q
          · exact Or.inr ⟨i, by omega, h2, h3, h4⟩
theorem reach_l {τ : Hp} {A : Nat → Nat → Prop} {a M : Nat} (hM : M < 256) (hA : ∀ i, i < 8 → ∃ r : Nat, τ 10 0 i = (r : Int) ∧ r < 256 ∧ ∀ k, r.testBit k = true ↔ A i k) : ∀ (d c n R L : Nat), c + d = 8 → d + 2 ≤ n → R < 256 → L < 256 →
    (∀ k, R.testBit k = true → Rch (fun k => M.testBit k = true) A a k) → R.testBit a = true → (∀ k, L.testBit k = true → R.testBit k = true) →
    (∀ i k, R.testBit i = true → ¬ L.testBit i = true → M.testBit k = true → A i k → R.testBit k = true) → (L = 0 ∨ c + 1 ≤ cntB 8 R) →
    ∃ r : Nat, lX2_reached_10 n τ M R L c = some ((r : Int), τ) ∧ r < 256 ∧ ∀ k, r.testBit k = true ↔ Rch (fun k => M.testBit k = true) A a k := by
  have fin : ∀ (R L : Nat), L = 0 → (∀ k, R.testBit k = true → Rch (fun k => M.testBit k = true) A a k) → R.testBit a = true →
      (∀ i k, R.testBit i = true → ¬ L.testBit i = true → M.testBit k = true → A i k → R.testBit k = true) → ∀ k, R.testBit k = true ↔ Rch (fun k => M.testBit k = true) A a k := by
    intro R L h0 h1 h2 h4 k
    refine ⟨h1 k, fun z => z (fun k => R.testBit k = true) h2 (fun i k hi hs ha => h4 i k hi ?_ hs ha)⟩
    rw [h0, Nat.zero_testBit]
    decide
  intro d
  induction d with
  | zero =>
    intro c n R L hc hn hR hL h1 h2 h3 h4 h5
    obtain ⟨n, rfl⟩ : ∃ m, n = m + 1 := ⟨n - 1, by omega⟩
    have hl := cntB_le R 8
    exact ⟨R, by rw [lX2_reached_10_e0, if_pos (by omega)], hR, fin R L (by omega) h1 h2 h4⟩
  | succ d ih =>
    intro c n R L hc hn hR hL h1 h2 h3 h4 h5
    obtain ⟨n, rfl⟩ : ∃ m, n = m + 1 := ⟨n - 1, by omega⟩
    have e5 : wr ((c : Int) + 1) = ((c + 1 : Nat) : Int) := by rw [wr_of (by omega) (by omega)]; omega
    rw [lX2_reached_10_e0, if_neg (by omega)]
    by_cases h0 : L = 0
    · exact ⟨R, by rw [if_pos (by omega)], hR, fin R L h0 h1 h2 h4⟩
    rw [if_neg (by omega)]
    obtain ⟨x, ex, hx, bx⟩ := next_l (τ := τ) hL hA 8 0 FU 0 (by omega) (by rw [FU_eq]; omega) (by omega)
    have ex' : fX2_nextTo τ L = some ((x : Int), τ) := ex
    rw [ex', cl_pos, qandN (by omega), qnotN (Nat.lt_of_lt_of_le (Nat.and_lt_two_pow x (n := 8) hM) (by omega)), e5]
    have hN8 : nd (x &&& M) R < 2 ^ 8 := nd_lt (Nat.and_lt_two_pow x hM)
    rw [qorN (by omega) (by omega)]
    have bN : ∀ k, (nd (x &&& M) R).testBit k = true ↔ ((∃ i, i < 8 ∧ L.testBit i = true ∧ A i k) ∧ M.testBit k = true ∧ ¬ R.testBit k = true) := by
      intro k
      rw [nd_bit, Nat.testBit_and, Bool.and_eq_true, Bool.and_eq_true, bx, Nat.zero_testBit]
      constructor
      · rintro ⟨⟨z | ⟨i, z1, z2, z3⟩, z4⟩, z5⟩
        · cases z
        · refine ⟨⟨i, z2, z3⟩, z4, fun q => ?_⟩
          exact absurd z5 (by rw [q]; decide)
      · rintro ⟨⟨i, z1, z2⟩, z3, z4⟩
        refine ⟨⟨Or.inr ⟨i, by omega, z1, z2⟩, z3⟩, ?_⟩
        cases q : R.testBit k
        · rfl
        · exact absurd q z4
    generalize nd (x &&& M) R = N at hN8 bN ⊢
    have bO : ∀ k, (R ||| N).testBit k = true ↔ (R.testBit k = true ∨ N.testBit k = true) := fun k => by rw [Nat.testBit_or, Bool.or_eq_true]
    refine ih (c + 1) n (R ||| N) N (by omega) (by omega) (Nat.or_lt_two_pow (n := 8) hR hN8) hN8 ?_ ?_ ?_ ?_ ?_
    · intro k hk
      rcases (bO k).mp hk with z | z
      · exact h1 k z
      · obtain ⟨⟨i, q1, q2, q3⟩, q4, -⟩ := (bN k).mp z
        exact (h1 i (h3 i q2)).step q4 q3
    · exact (bO a).mpr (Or.inl h2)
    · exact fun k hk => (bO k).mpr (Or.inr hk)
    · intro i k hi hL' hs hAik
      have hRi : R.testBit i = true := by
        rcases (bO i).mp hi with z | z
        · exact z
        · exact absurd z hL'
      rw [bO]
      by_cases q : R.testBit k = true
      · exact Or.inl q
      · by_cases ql : L.testBit i = true
        · exact Or.inr ((bN k).mpr ⟨⟨i, bit_lt (n := 8) hL ql, ql, hAik⟩, hs, q⟩)
        · exact Or.inl (h4 i k hRi ql hs hAik)
    · by_cases hz : N = 0
      · exact Or.inl hz
      · obtain ⟨i, hi⟩ := bit_ex hz
        have hlt := cntB_lt (m := R) (m' := R ||| N) (i := i) (fun k hk => (bO k).mpr (Or.inl hk)) ((bO i).mpr (Or.inr hi)) ((bN i).mp hi).2.2 8 (bit_lt hN8 hi)
        rcases h5 with q | q
        · exact absurd q h0
        · right; omega
theorem reach_sp {τ : Hp} {A : Nat → Nat → Prop} {a M : Nat} (ha : a < 8) (hM : M < 256) (hA : ∀ i, i < 8 → ∃ r : Nat, τ 10 0 i = (r : Int) ∧ r < 256 ∧ ∀ k, r.testBit k = true ↔ A i k) :
    ∃ r : Nat, fX2_reached τ a M = some ((r : Int), τ) ∧ r < 256 ∧ ∀ k, r.testBit k = true ↔ Rch (fun k => M.testBit k = true) A a k := by
  unfold fX2_reached
  rw [shl1 (by omega)]
  have h8 : 2 ^ a < 2 ^ 8 := p2_lt ha
  refine reach_l hM hA 8 0 FU (2 ^ a) (2 ^ a) (by omega) (by rw [FU_eq]; omega) h8 h8 ?_ Nat.testBit_two_pow_self (fun k h => h) (fun i k h1 h2 => absurd h1 h2) (Or.inr ?_)
  · intro k hk
    rw [Nat.testBit_two_pow, decide_eq_true_eq] at hk
    subst hk
    exact Rch.rf
  · have := cntB_lt (m := 0) (m' := 2 ^ a) (i := a) (fun i h => by rw [Nat.zero_testBit] at h; cases h) Nat.testBit_two_pow_self (by rw [Nat.zero_testBit]; decide) 8 ha
    omega
