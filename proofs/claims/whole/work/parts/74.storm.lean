/-! storm: sums and products -/
def sumF (f : Nat → Int) : Nat → Int
  | 0 => 0
  | n + 1 => sumF f n + f n
theorem sumF_congr {f g : Nat → Int} : ∀ (n : Nat), (∀ i, i < n → f i = g i) → sumF f n = sumF g n := by
  intro n
  induction n with
  | zero => intro _; rfl
  | succ n ih =>
    intro h
    show sumF f n + f n = sumF g n + g n
    rw [ih (fun i hi => h i (by omega)), h n (by omega)]
theorem sumF_add (f : Nat → Int) (a : Nat) : ∀ (b : Nat), sumF f (a + b) = sumF f a + sumF (fun i => f (a + i)) b := by
  intro b
  induction b with
  | zero =>
    show sumF f a = sumF f a + 0
    omega
  | succ b ih =>
    show sumF f (a + b) + f (a + b) = sumF f a + (sumF (fun i => f (a + i)) b + f (a + b))
    rw [ih]
    omega
theorem sumF_mul (f : Nat → Int) (q : Int) : ∀ (n : Nat), sumF (fun i => f i * q) n = sumF f n * q := by
  intro n
  induction n with
  | zero =>
    show (0 : Int) = 0 * q
    rw [Int.zero_mul]
  | succ n ih =>
    show sumF (fun i => f i * q) n + f n * q = (sumF f n + f n) * q
    rw [ih, Int.add_mul]
theorem sumF_rev (f : Nat → Int) : ∀ (n : Nat), sumF f (n + 1) = sumF (fun i => f (n - i)) (n + 1) := by
  intro n
  induction n with
  | zero => rfl
  | succ n ih =>
    have h := sumF_add (fun i => f (n + 1 - i)) 1 (n + 1)
    rw [show n + 1 + 1 = 1 + (n + 1) by omega, h, show 1 + (n + 1) = n + 1 + 1 by omega]
    show sumF f (n + 1) + f (n + 1) = (0 + f (n + 1 - 0)) + sumF (fun i => f (n + 1 - (1 + i))) (n + 1)
    rw [ih, sumF_congr (f := fun i => f (n + 1 - (1 + i))) (g := fun i => f (n - i)) (n + 1) (fun i _ => by
      show f (n + 1 - (1 + i)) = f (n - i)
      rw [show n + 1 - (1 + i) = n - i by omega]), Nat.sub_zero]
    omega
theorem sumF_le {f g : Nat → Int} : ∀ (n : Nat), (∀ i, i < n → 0 ≤ f i ∧ f i ≤ g i) → 0 ≤ sumF f n ∧ sumF f n ≤ sumF g n := by
  intro n
  induction n with
  | zero => intro _; exact ⟨Int.le_refl _, Int.le_refl _⟩
  | succ n ih =>
    intro h
    have h1 := ih (fun i hi => h i (by omega))
    have h2 := h n (by omega)
    show 0 ≤ sumF f n + f n ∧ sumF f n + f n ≤ sumF g n + g n
    omega
theorem sumF_mono {f : Nat → Int} (h : ∀ i, 0 ≤ f i) {n m : Nat} (hnm : n ≤ m) : sumF f n ≤ sumF f m := by
  obtain ⟨d, rfl⟩ : ∃ d, m = n + d := ⟨m - n, by omega⟩
  rw [sumF_add]
  have := (sumF_le (f := fun i => f (n + i)) (g := fun i => f (n + i)) d (fun i _ => ⟨h _, Int.le_refl _⟩)).1
  omega
def pw (b : Int) : Nat → Int
  | 0 => 1
  | n + 1 => pw b n * b
theorem pw_in {b : Int} (h0 : 0 ≤ b) (h1 : b ≤ 10) : ∀ (n : Nat), 0 ≤ pw b n ∧ pw b n ≤ pw 10 n := by
  intro n
  induction n with
  | zero => exact ⟨(show (0 : Int) ≤ 1 by decide), Int.le_refl _⟩
  | succ n ih =>
    refine ⟨Int.mul_nonneg ih.1 h0, ?_⟩
    exact Int.mul_le_mul ih.2 h1 h0 (Int.le_trans ih.1 ih.2)
theorem pw10_le : ∀ n : Fin 9, pw 10 n.val ≤ 100000000 ∧ 1 ≤ pw 10 n.val := by decide
theorem pw10 {n : Nat} (h : n ≤ 8) : pw 10 n ≤ 100000000 ∧ 1 ≤ pw 10 n := pw10_le ⟨n, by omega⟩
theorem power_l {σ : Hp} {b : Int} {e : Nat} (h0 : 0 ≤ b) (h1 : b ≤ 10) (he : e ≤ 8) : ∀ (d c n : Nat), c + d = e → d + 1 ≤ n → lX6_power_4 n σ b e (pw b c) c = some (pw b e, σ) := by
  intro d
  induction d with
  | zero =>
    intro c n hc hn
    obtain ⟨n, rfl⟩ : ∃ m, n = m + 1 := ⟨n - 1, by omega⟩
    rw [lX6_power_4_e0, if_pos (by omega), show c = e by omega]
  | succ d ih =>
    intro c n hc hn
    obtain ⟨n, rfl⟩ : ∃ m, n = m + 1 := ⟨n - 1, by omega⟩
    have e5 : wr ((c : Int) + 1) = ((c + 1 : Nat) : Int) := by rw [wr_of (by omega) (by omega)]; omega
    have q1 := pw_in h0 h1 (c + 1)
    have q2 := pw10 (n := c + 1) (by omega)
    have e6 : wr (pw b c * b) = pw b (c + 1) := wr_of (x := pw b (c + 1)) (by omega) (by omega)
    rw [lX6_power_4_e0, if_neg (by omega), e5, e6]
    exact ih (c + 1) n (by omega) (by omega)
theorem power6 {σ : Hp} {b : Int} {e : Nat} (h0 : 0 ≤ b) (h1 : b ≤ 10) (he : e ≤ 8) : fX6_power σ b e = some (pw b e, σ) := by
  unfold fX6_power
  exact power_l h0 h1 he e 0 FU (by omega) (by rw [FU_eq]; omega)
/-- the weight of what stays -/
def wfac (M : Nat) (c : Int) (s k : Nat) : Int := if M.testBit k = true then (if s.testBit k = true then 10 - c else c) else (if s.testBit k = true then 0 else 1)
def wP (M : Nat) (c : Int) (s : Nat) : Nat → Int
  | 0 => 1
  | n + 1 => wP M c s n * wfac M c s n
theorem wfac_in {M : Nat} {c : Int} (h0 : 0 ≤ c) (h1 : c ≤ 10) (s k : Nat) : 0 ≤ wfac M c s k ∧ wfac M c s k ≤ 10 := by
  unfold wfac
  repeat' split
  all_goals omega
theorem wP_in {M : Nat} {c : Int} (h0 : 0 ≤ c) (h1 : c ≤ 10) (s : Nat) : ∀ n, 0 ≤ wP M c s n ∧ wP M c s n ≤ pw 10 n := by
  intro n
  induction n with
  | zero => exact ⟨(show (0 : Int) ≤ 1 by decide), Int.le_refl _⟩
  | succ n ih =>
    have h := wfac_in (M := M) h0 h1 s n
    exact ⟨Int.mul_nonneg ih.1 h.1, Int.mul_le_mul ih.2 h.2 h.1 (Int.le_trans ih.1 ih.2)⟩
theorem wP_congr {M : Nat} {c : Int} {s s' : Nat} : ∀ n, (∀ k, k < n → s.testBit k = s'.testBit k) → wP M c s n = wP M c s' n := by
  intro n
  induction n with
  | zero => intro _; rfl
  | succ n ih =>
    intro h
    show wP M c s n * wfac M c s n = wP M c s' n * wfac M c s' n
    rw [ih (fun k hk => h k (by omega))]
    unfold wfac
    rw [h n (by omega)]
theorem wP_sum (M : Nat) (c : Int) : ∀ n, sumF (fun s => wP M c s n) (2 ^ n) = pw 10 (cntB n M) := by
  intro n
  induction n with
  | zero => rfl
  | succ n ih =>
    have hl : sumF (fun s => wP M c s (n + 1)) (2 ^ n) = sumF (fun s => wP M c s n) (2 ^ n) * (if M.testBit n = true then c else 1) := by
      rw [← sumF_mul]
      refine sumF_congr _ (fun s hs => ?_)
      show wP M c s n * wfac M c s n = wP M c s n * _
      unfold wfac
      rw [Nat.testBit_lt_two_pow hs]
      rfl
    have hh : sumF (fun i => wP M c (2 ^ n + i) (n + 1)) (2 ^ n) = sumF (fun s => wP M c s n) (2 ^ n) * (if M.testBit n = true then 10 - c else 0) := by
      rw [← sumF_mul]
      refine sumF_congr _ (fun s hs => ?_)
      show wP M c (2 ^ n + s) n * wfac M c (2 ^ n + s) n = wP M c s n * _
      rw [wP_congr (s := 2 ^ n + s) (s' := s) n (fun k hk => Nat.testBit_two_pow_add_gt hk s)]
      unfold wfac
      rw [Nat.testBit_two_pow_add_eq, Nat.testBit_lt_two_pow hs]
      rfl
    rw [show 2 ^ (n + 1) = 2 ^ n + 2 ^ n by rw [Nat.pow_succ]; omega, sumF_add, hl, hh, ih, ← Int.mul_add]
    show _ = pw 10 (cntB n M + (if M.testBit n = true then 1 else 0))
    by_cases q : M.testBit n = true
    · rw [if_pos q, if_pos q, if_pos q, show c + (10 - c) = 10 by omega]
      rfl
    · rw [if_neg q, if_neg q, if_neg q, show (1 : Int) + 0 = 1 from rfl, Int.mul_one]
      rfl
theorem nd_zero {s M : Nat} (h : nd s M = 0) {k : Nat} (hk : s.testBit k = true) : M.testBit k = true := by
  have := nd_bit s M k
  rw [h, Nat.zero_testBit, hk, Bool.true_and] at this
  cases q : M.testBit k
  · rw [q] at this; exact absurd this (by decide)
  · rfl
theorem wP_pw {M s : Nat} {c : Int} (hs : nd s M = 0) : ∀ n, pw (10 - c) (cntB n s) * pw c (cntB n (nd M s)) = wP M c s n := by
  intro n
  induction n with
  | zero => rfl
  | succ n ih =>
    show pw (10 - c) (cntB n s + (if s.testBit n = true then 1 else 0)) * pw c (cntB n (nd M s) + (if (nd M s).testBit n = true then 1 else 0)) = wP M c s n * wfac M c s n
    unfold wfac
    rw [nd_bit, ← ih]
    by_cases q : s.testBit n = true
    · rw [nd_zero hs q, q]
      show pw (10 - c) (cntB n s) * (10 - c) * pw c (cntB n (nd M s)) = pw (10 - c) (cntB n s) * pw c (cntB n (nd M s)) * (10 - c)
      exact Int.mul_right_comm _ _ _
    · have q0 : s.testBit n = false := by
        cases z : s.testBit n
        · rfl
        · exact absurd z q
      rw [q0]
      cases q2 : M.testBit n
      · show pw (10 - c) (cntB n s) * pw c (cntB n (nd M s)) = pw (10 - c) (cntB n s) * pw c (cntB n (nd M s)) * 1
        rw [Int.mul_one]
      · show pw (10 - c) (cntB n s) * (pw c (cntB n (nd M s)) * c) = pw (10 - c) (cntB n s) * pw c (cntB n (nd M s)) * c
        exact (Int.mul_assoc _ _ _).symm
theorem nd_sub_f : ∀ M : Fin 256, ∀ g : Fin 256, nd g.val M.val = 0 → nd M.val g.val + g.val = M.val := by decide +kernel
theorem nd_sub {M g : Nat} (hM : M < 256) (hg : g < 256) (h : nd g M = 0) : nd M g = M - g := by
  have := nd_sub_f ⟨M, hM⟩ ⟨g, hg⟩ h
  have h2 : nd M g + g = M := this
  omega
theorem nd_in (M g : Nat) : nd (nd M g) M = 0 := by
  apply Nat.eq_of_testBit_eq
  intro i
  rw [nd_bit, nd_bit, Nat.zero_testBit]
  cases M.testBit i <;> cases g.testBit i <;> rfl
/-- the ways of one set that stays -/
noncomputable def stC (w : Wv) (M a b : Nat) (c : Int) (s : Nat) : Int := @ite Int (nd s M = 0 ∧ TgW w s a b) (Classical.propDecidable _) (wP M c s 8) 0
theorem stC_1 {w : Wv} {M a b : Nat} {c : Int} {s : Nat} (h : nd s M = 0 ∧ TgW w s a b) : stC w M a b c s = wP M c s 8 := if_pos h
theorem stC_0 {w : Wv} {M a b : Nat} {c : Int} {s : Nat} (h : ¬ (nd s M = 0 ∧ TgW w s a b)) : stC w M a b c s = 0 := if_neg h
theorem stC_in {w : Wv} {M a b : Nat} {c : Int} (h0 : 0 ≤ c) (h1 : c ≤ 10) (s : Nat) : 0 ≤ stC w M a b c s ∧ stC w M a b c s ≤ wP M c s 8 := by
  have h := (wP_in (M := M) h0 h1 s 8).1
  by_cases q : nd s M = 0 ∧ TgW w s a b
  · rw [stC_1 q]; exact ⟨h, Int.le_refl _⟩
  · rw [stC_0 q]; exact ⟨Int.le_refl _, h⟩
theorem stC_sum {w : Wv} {M a b : Nat} {c : Int} (h0 : 0 ≤ c) (h1 : c ≤ 10) {n : Nat} (hn : n ≤ 256) : 0 ≤ sumF (stC w M a b c) n ∧ sumF (stC w M a b c) n ≤ pw 10 (cntB 8 M) := by
  have h := sumF_le (f := stC w M a b c) (g := fun s => wP M c s 8) n (fun i _ => stC_in h0 h1 i)
  have h2 := sumF_mono (f := fun s => wP M c s 8) (fun i => (wP_in h0 h1 i 8).1) hn
  have h3 : sumF (fun s => wP M c s 8) 256 = pw 10 (cntB 8 M) := wP_sum M c 8
  omega
theorem stC_rev {w : Wv} {M a b : Nat} {c : Int} (hM : M < 256) : sumF (stC w M a b c) (M + 1) = sumF (fun g => @ite Int (nd g M = 0 ∧ TgW w (nd M g) a b) (Classical.propDecidable _) (wP M c (nd M g) 8) 0) (M + 1) := by
  rw [sumF_rev]
  refine sumF_congr _ (fun g hg => ?_)
  show stC w M a b c (M - g) = @ite Int (nd g M = 0 ∧ TgW w (nd M g) a b) (Classical.propDecidable _) (wP M c (nd M g) 8) 0
  by_cases q : nd g M = 0
  · have e := nd_sub hM (by omega) q
    by_cases q2 : TgW w (nd M g) a b
    · rw [if_pos ⟨q, q2⟩, ← e]
      exact stC_1 ⟨nd_in M g, q2⟩
    · rw [if_neg (fun z => q2 z.2), ← e]
      exact stC_0 (fun z => q2 z.2)
  · rw [if_neg (fun z => q z.1)]
    refine stC_0 (fun z => q ?_)
    have e := nd_sub hM (by omega) z.1
    have : nd M (M - g) = g := by omega
    rw [← this]
    exact nd_in M (M - g)
/-! storm: the class' ways -/
theorem rch_in {S : Nat → Prop} {A : Nat → Nat → Prop} {a k : Nat} (h : Rch S A a k) : k = a ∨ S k := h (fun k => k = a ∨ S k) (Or.inl rfl) (fun _ _ _ hs _ => Or.inr hs)
theorem ways6_l {τ : Hp} {w : Wv} {a b M : Nat} {c : Int} (hw : WF 999 w) (ha : a < 8) (hb : b < 8) (hM : M = onW w (w (16 + 4 * a))) (hc0 : 0 ≤ c) (hc1 : c ≤ 10) (hA : ∀ i, i < 8 → ∃ r : Nat, τ 10 0 i = (r : Int) ∧ r < 256 ∧ ∀ k, r.testBit k = true ↔ Ac w i k) :
    ∀ (d s n : Nat), s + d = M + 1 → 2 * d + 1 ≤ n → lX6_stormWays_35 n 0 τ a b c M (sumF (stC w M a b c) s) s 0 = some (sumF (stC w M a b c) (M + 1), τ) := by
  have h3 := hw.2.2.2.1
  have hM8 : M < 256 := by rw [hM]; exact onW_lt hw _
  intro d
  induction d with
  | zero =>
    intro s n hs hn
    obtain ⟨n, rfl⟩ : ∃ m, n = m + 1 := ⟨n - 1, by omega⟩
    rw [lX6_stormWays_35_e0, if_pos (by omega), show s = M + 1 by omega]
  | succ d ih =>
    intro s n hs hn
    obtain ⟨n, rfl⟩ : ∃ m, n = m + 1 + 1 := ⟨n - 2, by omega⟩
    have e5 : wr ((s : Int) + 1) = ((s + 1 : Nat) : Int) := by rw [wr_of (by omega) (by omega)]; omega
    have ec : wr (10 - c) = 10 - c := wr_of (by omega) (by omega)
    have iht := ih (s + 1) n (by omega) (by omega)
    have eS : sumF (stC w M a b c) (s + 1) = sumF (stC w M a b c) s + stC w M a b c s := rfl
    have no : ¬ (nd s M = 0 ∧ TgW w s a b) → lX6_stormWays_35 (n + 1) 1 τ a b c M (sumF (stC w M a b c) s) s 0 = some (sumF (stC w M a b c) (M + 1), τ) := fun q => by
      rw [lX6_stormWays_35_e1, if_pos rfl, e5]
      rw [eS, stC_0 q, Int.add_zero] at iht
      exact iht
    rw [lX6_stormWays_35_e0, if_neg (by omega), qnotN (by omega), isInN (by omega) (by omega), isInN (by omega) (by omega)]
    by_cases q1 : nd s M = 0
    · rw [if_pos (by rw [q1]; rfl)]
      by_cases q2 : s.testBit a = true
      · rw [if_pos q2, if_neg (show ¬ (1 : Int) = 0 by omega)]
        by_cases q3 : s.testBit b = true
        · rw [if_pos q3, if_neg (show ¬ (1 : Int) = 0 by omega), lX6_stormWays_35_e1, if_neg (show ¬ (1 : Int) = 0 by omega)]
          obtain ⟨r, f1, f2, f4⟩ := reach_sp (τ := τ) (A := Ac w) (a := a) (M := s) ha (by omega) hA
          have hcm := rch_cm (w := w) (S := fun k => s.testBit k = true) (S' := fun k => s.testBit k = true) (a := a) (k := b) (t := w (16 + 4 * a)) (fun k => ⟨fun z => ⟨z, (onW_bit h3.1).mp (by rw [← hM]; exact nd_zero q1 z)⟩, fun z => z.1⟩) q2
          rw [f1, cl_pos, isInN (by omega) (by omega)]
          by_cases q4 : r.testBit b = true
          · have hT : nd s M = 0 ∧ TgW w s a b := ⟨q1, q2, hcm.mp ((f4 b).mp q4)⟩
            have hsum := stC_sum (w := w) (M := M) (a := a) (b := b) hc0 hc1 (n := s + 1) (by omega)
            have hp10 := pw10 (n := cntB 8 M) (cntB_le M 8)
            have hin := wP_in (M := M) hc0 hc1 s 8
            have hpp := pw10 (n := 8) (by omega)
            have hnd : nd M s < 2 ^ 8 := nd_lt hM8
            rw [eS, stC_1 hT] at iht hsum
            rw [if_pos q4, if_neg (show ¬ (1 : Int) = 0 by omega), ec, bcN (by omega), power6 (by omega) (by omega) (cntB_le s 8), cl_pos, qnotN (by omega), bcN hnd, power6 hc0 hc1 (cntB_le _ 8), cl_pos, wP_pw q1, wr_of (x := wP M c s 8) (by omega) (by omega), wr_of (x := sumF (stC w M a b c) s + wP M c s 8) (by omega) (by omega), e5]
            exact iht
          · have hT : ¬ (nd s M = 0 ∧ TgW w s a b) := fun z => q4 ((f4 b).mpr (hcm.mpr z.2.2))
            rw [eS, stC_0 hT, Int.add_zero] at iht
            rw [if_neg q4, if_pos rfl, e5]
            exact iht
        · rw [if_neg q3, if_pos (show (0 : Int) = 0 from rfl)]
          refine no (fun z => ?_)
          rcases rch_in z.2.2 with y | y
          · rw [y] at q3; exact q3 q2
          · exact q3 y
      · rw [if_neg q2, if_pos (show (0 : Int) = 0 from rfl)]
        exact no (fun z => q2 z.2.1)
    · rw [if_neg (show ¬ ((nd s M : Nat) : Int) = 0 by omega)]
      exact no (fun z => q1 z.1)
/-! storm: the model's ways -/
theorem wP_top {M N : Nat} {c : Int} {s : Nat} (hM : M < 2 ^ N) (hs : nd s M = 0) (hN : N ≤ 8) : wP M c s 8 = wP M c s N := by
  have h : ∀ d, wP M c s (N + d) = wP M c s N := by
    intro d
    induction d with
    | zero => rfl
    | succ d ih =>
      show wP M c s (N + d) * wfac M c s (N + d) = wP M c s N
      have e1 : M.testBit (N + d) = false := Nat.testBit_lt_two_pow (Nat.lt_of_lt_of_le hM (Nat.pow_le_pow_right (by omega) (by omega)))
      have e2 : s.testBit (N + d) = false := by
        cases q : s.testBit (N + d)
        · rfl
        · rw [nd_zero hs q] at e1; cases e1
      unfold wfac
      rw [e1, e2, ih]
      exact Int.mul_one _
  rw [show 8 = N + (8 - N) by omega]
  exact h _
theorem ways7_k {τ : Hp} {w : Wv} {a b v4 M g : Nat} {c A B v9 : Int} {N : Nat} (e27 : τ 27 0 = w) (hN : w 3 = N) (hN8 : N ≤ 8) (hM : M < 256) (hg : g < 256) (hc0 : 0 ≤ c) (hc1 : c ≤ 10) (hv : v9 = 0 ∨ v9 = 1) {res : Option (Int × Hp)} {K : Nat}
    (hk : ∀ m, K ≤ m → lX7_storm_102 m 0 τ a b c v4 M (wr (A + v9 * wP M c (nd M g) N)) B (wr ((g : Int) + 1)) 0 0 = res) : ∀ (d k n : Nat), k + d = N → K + d + 1 ≤ n → lX7_storm_102 n 1 τ a b c v4 M A B g (v9 * wP M c (nd M g) k) k = res := by
  intro d
  induction d with
  | zero =>
    intro k n hd hn
    obtain ⟨n, rfl⟩ : ∃ m, n = m + 1 := ⟨n - 1, by omega⟩
    rw [lX7_storm_102_e1, e27, if_pos (by omega), show k = N by omega]
    exact hk n (by omega)
  | succ d ih =>
    intro k n hd hn
    obtain ⟨n, rfl⟩ : ∃ m, n = m + 1 := ⟨n - 1, by omega⟩
    have e5 : wr ((k : Int) + 1) = ((k + 1 : Nat) : Int) := by rw [wr_of (by omega) (by omega)]; omega
    have ec : wr (10 - c) = 10 - c := wr_of (by omega) (by omega)
    have iht := ih (k + 1) n (by omega) (by omega)
    have hin := wP_in (M := M) hc0 hc1 (nd M g) (k + 1)
    have hp := pw10 (n := k + 1) (by omega)
    have eW : wP M c (nd M g) (k + 1) = wP M c (nd M g) k * wfac M c (nd M g) k := rfl
    have eV : wr (v9 * wP M c (nd M g) k * wfac M c (nd M g) k) = v9 * wP M c (nd M g) (k + 1) := by
      rw [Int.mul_assoc, ← eW]
      rcases hv with q | q
      · rw [q, Int.zero_mul, wr_of (by omega) (by omega)]
      · rw [q, Int.one_mul, wr_of (by omega) (by omega)]
    rw [lX7_storm_102_e1, e27, if_neg (by omega), hasN (by omega) (by omega), hasN (by omega) (by omega), ec, e5]
    unfold wfac at eV
    rw [nd_bit] at eV
    by_cases q1 : M.testBit k = true
    · rw [if_pos q1, if_neg (show ¬ (1 : Int) = 0 by omega)]
      rw [if_pos q1, q1, Bool.true_and] at eV
      by_cases q2 : g.testBit k = true
      · rw [if_pos q2, if_neg (show ¬ (1 : Int) = 0 by omega)]
        rw [q2, if_neg (by decide)] at eV
        rw [eV]
        exact iht
      · have q0 : g.testBit k = false := by
          cases z : g.testBit k
          · rfl
          · exact absurd z q2
        rw [if_neg q2, if_pos (show (0 : Int) = 0 from rfl)]
        rw [q0, if_pos (by decide)] at eV
        rw [eV]
        exact iht
    · have q0 : M.testBit k = false := by
        cases z : M.testBit k
        · rfl
        · exact absurd z q1
      rw [if_neg q1, if_pos (show (0 : Int) = 0 from rfl)]
      rw [if_neg q1, q0, Bool.false_and, if_neg (by decide)] at eV
      rw [eV]
      exact iht
theorem ways7_l {τ : Hp} {w : Wv} {a b v4 M N : Nat} {c B : Int} (e27 : τ 27 0 = w) (hw : WF 999 w) (hN : w 3 = N) (ha : (a : Int) < w 3) (hb : (b : Int) < w 3) (hM : M = onW w (w (16 + 4 * a))) (hc0 : 0 ≤ c) (hc1 : c ≤ 10) :
    ∀ (d g n : Nat), g + d = M + 1 → 20 * d + 1 ≤ n → ∃ m, lX7_storm_102 n 0 τ a b c v4 M (sumF (fun g => @ite Int (nd g M = 0 ∧ TgW w (nd M g) a b) (Classical.propDecidable _) (wP M c (nd M g) 8) 0) g) B g 0 0 = lX7_storm_218 FU τ v4 (sumF (stC w M a b c) (M + 1)) B (sumF (stC w M a b c) (M + 1)) B ∧ m = 0 := by
  have h3 := hw.2.2.2.1
  have hM8 : M < 256 := by rw [hM]; exact onW_lt hw _
  have hMN : M < 2 ^ N := by
    rw [hM]
    unfold onW
    rw [show (w 3).toNat = N by omega]
    exact setN_lt _ _
  intro d
  induction d with
  | zero =>
    intro g n hd hn
    obtain ⟨n, rfl⟩ : ∃ m, n = m + 1 := ⟨n - 1, by omega⟩
    refine ⟨0, ?_, rfl⟩
    rw [lX7_storm_102_e0, if_pos (by omega), show g = M + 1 by omega, ← stC_rev hM8]
  | succ d ih =>
    intro g n hd hn
    obtain ⟨n, rfl⟩ : ∃ m, n = m + 1 := ⟨n - 1, by omega⟩
    refine ⟨0, ?_, rfl⟩
    have e5 : wr ((g : Int) + 1) = ((g + 1 : Nat) : Int) := by rw [wr_of (by omega) (by omega)]; omega
    obtain ⟨f, hf⟩ : ∃ f : Nat → Int, f = (fun g => @ite Int (nd g M = 0 ∧ TgW w (nd M g) a b) (Classical.propDecidable _) (wP M c (nd M g) 8) 0) := ⟨_, rfl⟩
    rw [← hf] at ih ⊢
    have hfin : ∀ i, 0 ≤ f i ∧ f i ≤ pw 10 8 := fun i => by
      have h := wP_in (M := M) hc0 hc1 (nd M i) 8
      have hp := pw10 (n := 8) (by omega)
      rw [hf]
      show 0 ≤ @ite Int (nd i M = 0 ∧ TgW w (nd M i) a b) (Classical.propDecidable _) (wP M c (nd M i) 8) 0 ∧ @ite Int (nd i M = 0 ∧ TgW w (nd M i) a b) (Classical.propDecidable _) (wP M c (nd M i) 8) 0 ≤ pw 10 8
      by_cases q : nd i M = 0 ∧ TgW w (nd M i) a b
      · rw [if_pos q]; exact h
      · rw [if_neg q]; omega
    have hall : sumF f (M + 1) = sumF (stC w M a b c) (M + 1) := by rw [hf]; exact (stC_rev hM8).symm
    have hs0 := stC_sum (w := w) (M := M) (a := a) (b := b) hc0 hc1 (n := M + 1) (by omega)
    have hp10 := pw10 (n := cntB 8 M) (cntB_le M 8)
    have hmono := sumF_mono (f := f) (fun i => (hfin i).1) (n := g + 1) (m := M + 1) (by omega)
    have hge := (sumF_le (f := f) (g := f) (g + 1) (fun i _ => ⟨(hfin i).1, Int.le_refl _⟩)).1
    have eS : sumF f (g + 1) = sumF f g + f g := rfl
    have go : ∀ v9 : Int, (v9 = 0 ∨ v9 = 1) → v9 * wP M c (nd M g) N = f g → lX7_storm_102 n 1 τ a b c v4 M (sumF f g) B g v9 0 = lX7_storm_218 FU τ v4 (sumF (stC w M a b c) (M + 1)) B (sumF (stC w M a b c) (M + 1)) B := by
      intro v9 hv hf9
      have h := ways7_k (τ := τ) (w := w) (a := a) (b := b) (v4 := v4) (A := sumF f g) (B := B) e27 hN (by omega) hM8 (show g < 256 by omega) hc0 hc1 hv (K := 20 * d + 1) (fun m hm => by
        rw [hf9, ← eS, wr_of (by omega) (by omega), e5]
        exact (ih (g + 1) m (by omega) hm).choose_spec.1) N 0 n (by omega) (by omega)
      rw [show v9 * wP M c (nd M g) 0 = v9 from Int.mul_one v9] at h
      exact h
    rw [lX7_storm_102_e0, if_neg (by omega), qnotN (by omega)]
    by_cases q1 : nd g M = 0
    · rw [if_pos (by rw [q1]; rfl)]
      obtain ⟨r, e1, r1, i1⟩ := tog7 (σ := τ) (s := 27) (j := 0) (g := g) e27 (by show 48 ≤ 48; omega) hw ha hb (by omega)
      rw [← hM] at i1
      rw [e1, cl_pos]
      have htop := wP_top (c := c) hMN (nd_in M g) (by omega)
      by_cases q2 : TgW w (nd M g) a b
      · have hr : r = 1 := i1.mpr q2
        rw [if_neg (by omega)]
        refine go 1 (Or.inr rfl) ?_
        rw [hf, Int.one_mul, ← htop]
        exact (if_pos ⟨q1, q2⟩).symm
      · have hr : r = 0 := by
          rcases r1 with z | z
          · exact z
          · exact absurd (i1.mp z) q2
        rw [if_pos hr]
        refine go 0 (Or.inl rfl) ?_
        rw [hf, Int.zero_mul]
        exact (if_neg (fun z => q2 z.2)).symm
    · rw [if_neg (show ¬ ((nd g M : Nat) : Int) = 0 by omega)]
      refine go 0 (Or.inl rfl) ?_
      rw [hf, Int.zero_mul]
      exact (if_neg (fun z => q1 z.1)).symm
theorem below7_l {τ : Hp} {w : Wv} {a b v4 M N : Nat} {c : Int} (e27 : τ 27 0 = w) (hN : w 3 = N) (hN8 : N ≤ 8) (hM : M < 2 ^ N) (hM8 : M < 256) : ∀ (d k n : Nat), k + d = N → d + 1 ≤ n → lX7_storm_61 n τ a b c v4 M 0 (pw 10 (cntB k M)) k = lX7_storm_102 FU 0 τ a b c v4 M 0 (pw 10 (cntB 8 M)) 0 0 0 := by
  have htop : ∀ d, cntB (N + d) M = cntB N M := by
    intro d
    induction d with
    | zero => rfl
    | succ d ih =>
      show cntB (N + d) M + (if M.testBit (N + d) = true then 1 else 0) = cntB N M
      rw [Nat.testBit_lt_two_pow (Nat.lt_of_lt_of_le hM (Nat.pow_le_pow_right (by omega) (by omega))), ih]
      rfl
  have h8 : cntB 8 M = cntB N M := by
    rw [show 8 = N + (8 - N) by omega]
    exact htop _
  intro d
  induction d with
  | zero =>
    intro k n hd hn
    obtain ⟨n, rfl⟩ : ∃ m, n = m + 1 := ⟨n - 1, by omega⟩
    rw [lX7_storm_61_e0, e27, if_pos (by omega), h8, show k = N by omega]
  | succ d ih =>
    intro k n hd hn
    obtain ⟨n, rfl⟩ : ∃ m, n = m + 1 := ⟨n - 1, by omega⟩
    have e5 : wr ((k : Int) + 1) = ((k + 1 : Nat) : Int) := by rw [wr_of (by omega) (by omega)]; omega
    have iht := ih (k + 1) n (by omega) (by omega)
    have hle := cntB_le M k
    have eC : cntB (k + 1) M = cntB k M + (if M.testBit k = true then 1 else 0) := rfl
    rw [eC] at iht
    rw [lX7_storm_61_e0, e27, if_neg (by omega), hasN (by omega) (by omega), e5]
    by_cases q : M.testBit k = true
    · have hp := pw10 (n := cntB k M + 1) (by omega)
      rw [if_pos q] at iht
      rw [if_pos q, if_neg (show ¬ (1 : Int) = 0 by omega), show pw 10 (cntB k M) * 10 = pw 10 (cntB k M + 1) from rfl, wr_of (by omega) (by omega)]
      exact iht
    · have hp := pw10 (n := cntB k M) (by omega)
      rw [if_neg q, Nat.add_zero] at iht
      rw [if_neg q, if_pos rfl, Int.mul_one, wr_of (by omega) (by omega)]
      exact iht
/-! storm: the greatest divisor -/
theorem gcd_step {x y d : Nat} (hy : 0 < y) (hxy : y ≤ x) (h : x * y < 2 ^ (d + 1)) : y * (x % y) < 2 ^ d := by
  have h1 : x % y < y := Nat.mod_lt _ hy
  have h2 : x % y * 2 ≤ x := by
    have h4 := Nat.div_add_mod x y
    have h5 : 1 ≤ x / y := (Nat.le_div_iff_mul_le hy).mpr (by omega)
    have h6 : y * 1 ≤ y * (x / y) := Nat.mul_le_mul_left y h5
    omega
  have h3 : y * (x % y * 2) ≤ y * x := Nat.mul_le_mul_left y h2
  rw [Nat.mul_comm y x, ← Nat.mul_assoc] at h3
  rw [Nat.pow_succ] at h
  omega
theorem qremN {x y : Nat} (hy : 0 < y) (hx : x < 2 ^ 31) : qrem x y = ((x % y : Nat) : Int) := by
  rw [qrem_of (by omega) (by omega) (by omega)]
  omega
theorem gcd6_l {σ : Hp} : ∀ (d x y c n : Nat), y ≤ x → x < 2 ^ 31 → x * y < 2 ^ d → c + d ≤ 64 → d + 1 ≤ n → lX6_greatestDivisor_15 n σ x y c = some (qmax ((Nat.gcd x y : Nat) : Int) 1, σ) := by
  intro d
  induction d with
  | zero =>
    intro x y c n hyx hx h hc hn
    obtain ⟨n, rfl⟩ : ∃ m, n = m + 1 := ⟨n - 1, by omega⟩
    have hy : y = 0 := by
      rcases Nat.eq_zero_or_pos y with q | q
      · exact q
      · have := Nat.mul_pos (show 0 < x by omega) q
        omega
    subst hy
    rw [lX6_greatestDivisor_15_e0, Nat.gcd_zero_right]
    by_cases q : (64 : Int) ≤ c
    · rw [if_pos q]
    · rw [if_neg q, if_pos (by omega)]
  | succ d ih =>
    intro x y c n hyx hx h hc hn
    obtain ⟨n, rfl⟩ : ∃ m, n = m + 1 := ⟨n - 1, by omega⟩
    have e5 : wr ((c : Int) + 1) = ((c + 1 : Nat) : Int) := by rw [wr_of (by omega) (by omega)]; omega
    rw [lX6_greatestDivisor_15_e0, if_neg (by omega)]
    by_cases q : y = 0
    · subst q
      rw [if_pos (by omega), Nat.gcd_zero_right]
    · have hl := Nat.mod_lt x (show 0 < y by omega)
      rw [if_neg (by omega), gd_pos (by omega), qremN (by omega) hx, e5, ih y (x % y) (c + 1) n (by omega) (by omega) (gcd_step (by omega) hyx h) (by omega) (by omega), Nat.gcd_comm x y, Nat.gcd_rec y x, Nat.gcd_comm y (x % y)]
theorem gcd7_l {σ : Hp} {v4 : Int} {A B : Int} : ∀ (d x y n : Nat), y ≤ x → 0 < x → x < 2 ^ 31 → x * y < 2 ^ d → d + 1 ≤ n → lX7_storm_218 n σ v4 A B x y = some (if v4 = 0 then qdiv A ((Nat.gcd x y : Nat) : Int) else qdiv B ((Nat.gcd x y : Nat) : Int), σ) := by
  intro d
  induction d with
  | zero =>
    intro x y n hyx h0 hx h hn
    obtain ⟨n, rfl⟩ : ∃ m, n = m + 1 := ⟨n - 1, by omega⟩
    have hy : y = 0 := by
      rcases Nat.eq_zero_or_pos y with q | q
      · exact q
      · have := Nat.mul_pos h0 q
        omega
    subst hy
    rw [lX7_storm_218_e0, if_pos (by omega), Nat.gcd_zero_right, gd_pos (by omega), gd_pos (by omega)]
    split <;> rfl
  | succ d ih =>
    intro x y n hyx h0 hx h hn
    obtain ⟨n, rfl⟩ : ∃ m, n = m + 1 := ⟨n - 1, by omega⟩
    rw [lX7_storm_218_e0]
    by_cases q : y = 0
    · subst q
      rw [if_pos (by omega), Nat.gcd_zero_right, gd_pos (by omega), gd_pos (by omega)]
      split <;> rfl
    · have hl := Nat.mod_lt x (show 0 < y by omega)
      rw [if_neg (by omega), gd_pos (by omega), qremN (by omega) hx, ih y (x % y) n (by omega) (by omega) (by omega) (gcd_step (by omega) hyx h) (by omega), Nat.gcd_comm x y, Nat.gcd_rec y x, Nat.gcd_comm y (x % y)]
theorem gcd7_sp {σ : Hp} {v4 : Int} {P Q : Int} {A B : Nat} (hAB : A ≤ B) (hB : 1 ≤ B) (hB2 : B ≤ 100000000) : lX7_storm_218 FU σ v4 P Q A B = some (if v4 = 0 then qdiv P ((Nat.gcd A B : Nat) : Int) else qdiv Q ((Nat.gcd A B : Nat) : Int), σ) := by
  obtain ⟨n, hn⟩ : ∃ n, FU = n + 1 := ⟨99999, by rw [FU_eq]⟩
  have hn2 : n = 99999 := by rw [FU_eq] at hn; omega
  have hm := Nat.mod_lt A (show 0 < B by omega)
  have hmul : B * (A % B) < 2 ^ 60 := by
    have h1 : B * (A % B) ≤ 100000000 * 100000000 := Nat.mul_le_mul hB2 (by omega)
    omega
  rw [hn, lX7_storm_218_e0, if_neg (by omega), gd_pos (by omega), qremN (by omega) (by omega), gcd7_l 60 B (A % B) n (by omega) (by omega) (by omega) hmul (by omega), Nat.gcd_comm A B, Nat.gcd_rec B A, Nat.gcd_comm B (A % B)]
theorem gcd6_sp {σ : Hp} {A B : Nat} (hAB : A ≤ B) (hB : 1 ≤ B) (hB2 : B ≤ 100000000) : fX6_greatestDivisor σ A B = some (((Nat.gcd A B : Nat) : Int), σ) := by
  have hmul : B * A < 2 ^ 60 := by
    have h1 : B * A ≤ 100000000 * 100000000 := Nat.mul_le_mul hB2 (by omega)
    omega
  have hg : 0 < Nat.gcd A B := Nat.gcd_pos_of_pos_right A (by omega)
  unfold fX6_greatestDivisor
  have e1 : qmax (A : Int) (B : Int) = (B : Int) := by
    unfold qmax
    split <;> omega
  have e2 : qmin (A : Int) (B : Int) = (A : Int) := by
    unfold qmin
    split <;> omega
  have h := gcd6_l (σ := σ) 60 B A 0 FU hAB (by omega) hmul (by omega) (by rw [FU_eq]; omega)
  rw [e1, e2]
  refine Eq.trans h ?_
  rw [Nat.gcd_comm B A]
  congr 2
  unfold qmax
  split <;> omega
theorem ok_storm {σ : Hp} (h : Sim σ) {a b c s : Int} : Ok (fun τ => fX6_storm τ a b c s) (fun τ => fX7_storm τ a b c s) σ := by
  obtain ⟨hR, hw⟩ := h.2.2.1.1
  have h3 := hw.2.2.2.1
  rcases pair_sp h a b with ⟨p1, p2⟩ | ⟨x, y, rfl, rfl, hx, hy, hne, -, p1, p2⟩
  · refine Ok.same (r := -1000001) h ?_ ?_
    · simp only [fX6_storm]; rw [p1, cl_pos, if_pos rfl]
    · simp only [fX7_storm]; rw [p2 σ rfl, cl_pos, if_pos rfl]
  by_cases hc : 0 ≤ c ∧ c ≤ 10
  case neg =>
    refine Ok.same (r := -1000001) h ?_ ?_
    · simp only [fX6_storm]; rw [p1, cl_pos, if_neg (by omega)]
      by_cases q : c < 0
      · rw [if_pos q]
      · rw [if_neg q, if_pos (by omega)]
    · simp only [fX7_storm]; rw [p2 σ rfl, cl_pos, if_neg (by omega), if_pos (in_0.mpr hc)]
  by_cases hs : 0 ≤ s ∧ s ≤ 1
  case neg =>
    refine Ok.same (r := -1000001) h ?_ ?_
    · simp only [fX6_storm]; rw [p1, cl_pos, if_neg (by omega), if_neg (by omega), if_neg (by omega), if_pos (choice6_0.mpr hs)]
    · simp only [fX7_storm]; rw [p2 σ rfl, cl_pos, if_neg (by omega), if_neg (in_1 hc), if_pos (in_0.mpr hs)]
  obtain ⟨v4, rfl⟩ : ∃ k : Nat, s = k := ⟨s.toNat, by omega⟩
  obtain ⟨N, hN⟩ : ∃ N : Nat, σ 27 0 3 = N := ⟨(σ 27 0 3).toNat, by omega⟩
  obtain ⟨M, hM⟩ : ∃ M, M = onW (σ 27 0) (σ 27 0 (16 + 4 * x)) := ⟨_, rfl⟩
  have hM8 : M < 256 := by rw [hM]; exact onW_lt hw _
  have hMN : M < 2 ^ N := by
    rw [hM]
    unfold onW
    rw [show (σ 27 0 3).toNat = N by omega]
    exact setN_lt _ _
  obtain ⟨τ, hτ⟩ : ∃ τ, τ = srow σ 10 0 (lkW (σ 27 0) (σ 10 0)) := ⟨_, rfl⟩
  have e27 : τ 27 0 = σ 27 0 := by rw [hτ, srow_ne (by omega)]
  have hRτ : RelW τ 0 (σ 27 0) := by rw [hτ]; exact hR.row10 _
  have p16 := (hRτ.2.2.2.2.2.2 x hx).1
  have hsum := stC_sum (w := σ 27 0) (M := M) (a := x) (b := y) hc.1 hc.2 (n := M + 1) (by omega)
  have hp10 := pw10 (n := cntB 8 M) (cntB_le M 8)
  have e6 := ways6_l (τ := τ) (w := σ 27 0) (a := x) (b := y) (M := M) (c := c) hw (by omega) (by omega) hM hc.1 hc.2 (fun i hi => by
    rw [hτ, srow_at]
    exact lkW_at hw hi) (M + 1) 0 FU (by omega) (by rw [FU_eq]; omega)
  have e6' : lX6_stormWays_35 FU 0 τ x y c M 0 0 0 = some (sumF (stC (σ 27 0) M x y c) (M + 1), τ) := e6
  obtain ⟨-, e7, -⟩ := ways7_l (τ := τ) (w := σ 27 0) (a := x) (b := y) (v4 := v4) (M := M) (N := N) (c := c) (B := pw 10 (cntB 8 M)) e27 hw hN hx hy hM hc.1 hc.2 (M + 1) 0 FU (by omega) (by rw [FU_eq]; omega)
  have e7' : lX7_storm_102 FU 0 τ x y c v4 M 0 (pw 10 (cntB 8 M)) 0 0 0 = lX7_storm_218 FU τ v4 (sumF (stC (σ 27 0) M x y c) (M + 1)) (pw 10 (cntB 8 M)) (sumF (stC (σ 27 0) M x y c) (M + 1)) (pw 10 (cntB 8 M)) := e7
  have e8 := below7_l (τ := τ) (w := σ 27 0) (a := x) (b := y) (v4 := v4) (M := M) (N := N) (c := c) e27 hN (by omega) hMN hM8 N 0 FU (by omega) (by rw [FU_eq]; omega)
  have e8' : lX7_storm_61 FU τ x y c v4 M 0 1 0 = lX7_storm_102 FU 0 τ x y c v4 M 0 (pw 10 (cntB 8 M)) 0 0 0 := e8
  obtain ⟨A, hA⟩ : ∃ A : Nat, sumF (stC (σ 27 0) M x y c) (M + 1) = A := ⟨(sumF (stC (σ 27 0) M x y c) (M + 1)).toNat, by omega⟩
  obtain ⟨B, hB⟩ : ∃ B : Nat, pw 10 (cntB 8 M) = B := ⟨(pw 10 (cntB 8 M)).toNat, by omega⟩
  have g7 := gcd7_sp (σ := τ) (v4 := (v4 : Int)) (P := (A : Int)) (Q := (B : Int)) (A := A) (B := B) (by omega) (by omega) (by omega)
  have g6 := gcd6_sp (σ := τ) (A := A) (B := B) (by omega) (by omega) (by omega)
  have hg : 0 < Nat.gcd A B := Nat.gcd_pos_of_pos_right A (by omega)
  rw [hA, hB] at e7'
  rw [hB] at e8'
  rw [hA] at e6'
  have hb10 : (cntB 8 M) ≤ 8 := cntB_le M 8
  refine ⟨if (v4 : Int) = 0 then qdiv A ((Nat.gcd A B : Nat) : Int) else qdiv B ((Nat.gcd A B : Nat) : Int), τ, τ, ?_, ?_, by rw [hτ]; exact h.row10 _⟩
  · simp only [fX6_storm]
    have ew : fX6_stormWays σ x y c = some ((A : Int), τ) := by
      unfold fX6_stormWays
      rw [look_sp hR hw, cl_pos, ← hτ, gd_pos (by omega), Int.toNat_natCast, p16, on6 hRτ hw, cl_pos, ← hM, e6']
    rw [p1, cl_pos, if_neg (by omega), if_neg (by omega), if_neg (by omega), if_neg (fun z => choice6_0.mp z hs), ew, cl_pos, gd_pos (by omega), Int.toNat_natCast, p16, on6 hRτ hw, cl_pos, ← hM, bcN hM8, power6 (by omega) (by omega) hb10, cl_pos, hB, g6, cl_pos]
    by_cases q : (v4 : Int) = 0
    · rw [if_pos q, if_pos q, gd_pos (by omega)]
    · rw [if_neg q, if_neg q, gd_pos (by omega)]
  · simp only [fX7_storm]
    rw [p2 τ e27, cl_pos, if_neg (by omega), if_neg (in_1 hc), if_neg (in_1 hs), wr16c (by omega), gd_pos (by omega), Int.toNat_natCast, e27, legO7 e27 (by show 48 ≤ 48; omega) hw (by have := (hw.2.2.2.2.2 x hx).1; omega), cl_pos, ← hM, e8', e7', g7]
