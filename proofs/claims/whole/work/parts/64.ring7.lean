/-! the model: a ring, as great as can be -/
def rinv (w : Wv) (M a H b c R : Nat) : Prop := R < 256 ∧ (∀ k, R.testBit k = true → Rch (fun k => M.testBit k = true) (Am w) a k) ∧ (∀ k, H.testBit k = true → R.testBit k = true) ∧
  (∀ i k, H.testBit i = true → (i < b ∨ (i = b ∧ k < c)) → M.testBit k = true → Am w i k → R.testBit k = true)
theorem ring7_c {σ : Hp} {s j : Nat} {w : Wv} {Y : Int} {M a H b : Nat} (e : σ s j = w) (hl : 48 ≤ alen s) (hw : WF Y w) (hM : M < 256) (hb : (b : Int) < w 3) {G : Nat → Prop} {K : Nat}
    (hk : ∀ R m, rinv w M a H (b + 1) 0 R → K ≤ m → ∃ r : Nat, lX7_ringOf_19 m 1 σ s j M R H ((b + 1 : Nat) : Int) 0 = some ((r : Int), σ) ∧ G r) :
    ∀ (d c n R : Nat), (c : Int) + d = w 3 → K + d + 1 ≤ n → rinv w M a H b c R → ∃ r : Nat, lX7_ringOf_19 n 2 σ s j M R H b c = some ((r : Int), σ) ∧ G r := by
  have h3 := hw.2.2.2.1
  have hla : (48 : Int) ≤ (alen s : Int) := by omega
  have eb : wr ((b : Int) + 1) = ((b + 1 : Nat) : Int) := by rw [wr_of (by omega) (by omega)]; omega
  intro d
  induction d with
  | zero =>
    intro c n R hc hn hI
    obtain ⟨n, rfl⟩ : ∃ m, n = m + 1 := ⟨n - 1, by omega⟩
    rw [lX7_ringOf_19_e2, gd_pos (by omega), e, if_pos (by omega), eb]
    refine hk R n ⟨hI.1, hI.2.1, hI.2.2.1, fun i k h1 h2 h4 h5 => hI.2.2.2 i k h1 ?_ h4 h5⟩ (by omega)
    have := h5.2.1
    omega
  | succ d ih =>
    intro c n R hc hn hI
    obtain ⟨n, rfl⟩ : ∃ m, n = m + 1 := ⟨n - 1, by omega⟩
    have hcl : (c : Int) < w 3 := by omega
    have ec : wr ((c : Int) + 1) = ((c + 1 : Nat) : Int) := by rw [wr_of (by omega) (by omega)]; omega
    obtain ⟨i1, i2, i3, i4⟩ := hI
    have stay : (R.testBit b = true → M.testBit c = true → Am w b c → False) → ∃ r : Nat, lX7_ringOf_19 n 2 σ s j M R H b ((c + 1 : Nat) : Int) = some ((r : Int), σ) ∧ G r := by
      intro hno
      refine ih (c + 1) n R (by omega) (by omega) ⟨i1, i2, i3, fun i k h1 h2 h4 h5 => ?_⟩
      by_cases q : i = b ∧ k = c
      · obtain ⟨rfl, rfl⟩ := q
        exact (hno (i3 _ h1) h4 h5).elim
      · exact i4 i k h1 (by omega) h4 h5
    rw [lX7_ringOf_19_e2, gd_pos (by omega), e, if_neg (by omega), hasN (by omega) (by omega), hasN (by omega) (by omega), ec, qor0 (by omega)]
    by_cases q1 : R.testBit b = true
    · rw [if_pos q1, if_neg (by omega)]
      by_cases q2 : M.testBit c = true
      · rw [if_pos q2, if_neg (by omega), apart7 e hl hw hb hcl, cl_pos, gd_pos (by omega), e]
        by_cases q3 : w 0 < apartW w b c
        · rw [if_pos q3]
          exact stay (fun _ _ z => by have := z.2.2; omega)
        · have hA : Am w b c := ⟨hb, hcl, by omega⟩
          rw [if_neg q3, qorP (by omega) (by omega)]
          have h8 : R ||| 2 ^ c < 2 ^ 8 := Nat.or_lt_two_pow i1 (p2_lt (by omega))
          have bO : ∀ k, (R ||| 2 ^ c).testBit k = true ↔ (R.testBit k = true ∨ c = k) := fun k => by rw [Nat.testBit_or, Bool.or_eq_true, Nat.testBit_two_pow, decide_eq_true_eq]
          refine ih (c + 1) n (R ||| 2 ^ c) (by omega) (by omega) ⟨h8, fun k hk => ?_, fun k hk => (bO k).mpr (Or.inl (i3 k hk)), fun i k h1 h2 h4 h5 => ?_⟩
          · rcases (bO k).mp hk with z | z
            · exact i2 k z
            · subst z
              exact (i2 b q1).step q2 hA
          · rw [bO]
            by_cases q : k = c
            · exact Or.inr q.symm
            · exact Or.inl (i4 i k h1 (by omega) h4 h5)
      · rw [if_neg q2, if_pos rfl]
        exact stay (fun _ z _ => q2 z)
    · rw [if_neg q1, if_pos rfl]
      exact stay (fun z _ _ => q1 z)
theorem ring7_b {σ : Hp} {s j : Nat} {w : Wv} {Y : Int} {M a H : Nat} (e : σ s j = w) (hl : 48 ≤ alen s) (hw : WF Y w) (hM : M < 256) {G : Nat → Prop} {K : Nat}
    (hk : ∀ R m, rinv w M a H (w 3).toNat 0 R → K ≤ m → ∃ r : Nat, lX7_ringOf_19 m 0 σ s j M R H 0 0 = some ((r : Int), σ) ∧ G r) :
    ∀ (d b n R : Nat), (b : Int) + d = w 3 → K + 20 * d + 1 ≤ n → rinv w M a H b 0 R → ∃ r : Nat, lX7_ringOf_19 n 1 σ s j M R H b 0 = some ((r : Int), σ) ∧ G r := by
  have h3 := hw.2.2.2.1
  have hla : (48 : Int) ≤ (alen s : Int) := by omega
  intro d
  induction d with
  | zero =>
    intro b n R hb hn hI
    obtain ⟨n, rfl⟩ : ∃ m, n = m + 1 := ⟨n - 1, by omega⟩
    rw [lX7_ringOf_19_e1, gd_pos (by omega), e, if_pos (by omega)]
    rw [show b = (w 3).toNat by omega] at hI
    exact hk R n hI (by omega)
  | succ d ih =>
    intro b n R hb hn hI
    obtain ⟨n, rfl⟩ : ∃ m, n = m + 1 := ⟨n - 1, by omega⟩
    rw [lX7_ringOf_19_e1, gd_pos (by omega), e, if_neg (by omega)]
    exact ring7_c e hl hw hM (by omega) (G := G) (K := K + 20 * d + 1) (fun R m hI hm => ih (b + 1) m R (by omega) hm hI) (w 3).toNat 0 n R (by omega) (by omega) hI
theorem ring7_a {σ : Hp} {s j : Nat} {w : Wv} {Y : Int} {M a : Nat} (e : σ s j = w) (hl : 48 ≤ alen s) (hw : WF Y w) (hM : M < 256) : ∀ (x n H R : Nat), 9 ≤ cntB 8 H + x → 300 * x + 1 ≤ n → R.testBit a = true → rinv w M a H (w 3).toNat 0 R →
    ∃ r : Nat, lX7_ringOf_19 n 0 σ s j M R H 0 0 = some ((r : Int), σ) ∧ (r < 256 ∧ ∀ k, r.testBit k = true ↔ Rch (fun k => M.testBit k = true) (Am w) a k) := by
  have h3 := hw.2.2.2.1
  intro x
  induction x with
  | zero =>
    intro n H R hx hn
    have := cntB_le H 8
    omega
  | succ x ih =>
    intro n H R hx hn hRa hI
    obtain ⟨n, rfl⟩ : ∃ m, n = m + 1 := ⟨n - 1, by omega⟩
    rw [lX7_ringOf_19_e0]
    by_cases q : R = H
    · subst q
      refine ⟨R, by rw [if_pos rfl], hI.1, fun k => ⟨hI.2.1 k, fun z => z (fun k => R.testBit k = true) hRa (fun i k hi hs ha => hI.2.2.2 i k hi ?_ hs ha)⟩⟩
      have := ha.1
      omega
    · rw [if_neg (by omega)]
      obtain ⟨i, hi1, hi2⟩ : ∃ i, R.testBit i = true ∧ ¬ H.testBit i = true := by
        apply Classical.byContradiction
        intro hn
        apply q
        apply Nat.eq_of_testBit_eq
        intro i
        cases q1 : H.testBit i
        · cases q2 : R.testBit i
          · rfl
          · exact absurd ⟨i, q2, by rw [q1]; decide⟩ hn
        · exact hI.2.2.1 i q1
      have hlt := cntB_lt hI.2.2.1 hi1 hi2 8 (bit_lt (n := 8) hI.1 hi1)
      refine ring7_b e hl hw hM (K := 300 * x + 1) (fun R' m hI' hm => ?_) (w 3).toNat 0 n R (by omega) (by omega) ⟨hI.1, hI.2.1, fun k h => h, fun i k _ h2 => by omega⟩
      exact ih m R R' (by omega) hm (hI'.2.2.1 a hRa) hI'
theorem ring7_sp {σ : Hp} {s j : Nat} {w : Wv} {Y : Int} {M a : Nat} (e : σ s j = w) (hl : 48 ≤ alen s) (hw : WF Y w) (hM : M < 256) (ha : a < 8) :
    ∃ r : Nat, fX7_ringOf σ s j a M = some ((r : Int), σ) ∧ r < 256 ∧ ∀ k, r.testBit k = true ↔ (M.testBit a = true ∧ Rch (fun k => M.testBit k = true) (Am w) a k) := by
  unfold fX7_ringOf
  rw [hasN (by omega) (by omega)]
  have h0 : ∀ i, (0 : Nat).testBit i = true → False := fun i z => by rw [Nat.zero_testBit] at z; cases z
  by_cases q : M.testBit a = true
  · rw [if_pos q, if_neg (by omega), shl1 (by omega)]
    have h8 : 2 ^ a < 2 ^ 8 := p2_lt ha
    obtain ⟨r, h1, h2, h4⟩ := ring7_a (a := a) e hl hw hM 9 FU 0 (2 ^ a) (by omega) (by rw [FU_eq]; omega) Nat.testBit_two_pow_self ⟨h8, fun k hk => by
      rw [Nat.testBit_two_pow, decide_eq_true_eq] at hk
      subst hk
      exact Rch.rf, fun k h => (h0 k h).elim, fun i k h => (h0 i h).elim⟩
    exact ⟨r, h1, h2, fun k => (h4 k).trans ⟨fun z => ⟨q, z⟩, fun z => z.2⟩⟩
  · rw [if_neg q, if_pos rfl]
    refine ⟨0, ?_, by omega, fun k => ⟨fun z => (h0 k z).elim, fun z => absurd z.1 q⟩⟩
    obtain ⟨n, hn⟩ : ∃ n, FU = n + 1 := ⟨99999, by rw [FU_eq]⟩
    rw [hn, lX7_ringOf_19_e0, if_pos rfl]
    rfl
/-! both sides reach the same -/
theorem btw_sym (p q : Int) : btw p q = btw q p := by
  unfold btw
  repeat' split
  all_goals omega
theorem rch_cm {w : Wv} {S S' : Nat → Prop} {a k : Nat} {t : Int} (hS : ∀ k : Nat, S' k ↔ (S k ∧ (k : Int) < w 3 ∧ 0 < w (19 + 4 * k) ∧ w (16 + 4 * k) = t)) (ha : S' a) : Rch S (Ac w) a k ↔ Rch S' (Am w) a k := by
  constructor
  · intro h T h1 h2
    have := h (fun k => T k ∧ S' k) ⟨h1, ha⟩ (fun i k hi hs hA => ?_)
    · exact this.1
    · obtain ⟨c1, c2, c3, ⟨c4, c5, c6⟩, c7⟩ := hA
      have hk : S' k := (hS k).mpr ⟨hs, c2, c6, by rw [← c4]; exact ((hS i).mp hi.2).2.2.2⟩
      exact ⟨h2 i k hi.1 hk ⟨c1, c2, c7⟩, hk⟩
  · intro h T h1 h2
    have := h (fun k => T k ∧ S' k) ⟨h1, ha⟩ (fun i k hi hs hA => ?_)
    · exact this.1
    · obtain ⟨c1, c2, c7⟩ := hA
      refine ⟨?_, hs⟩
      by_cases e : i = k
      · rw [← e]; exact hi.1
      · obtain ⟨d1, d2, d3, d4⟩ := (hS i).mp hi.2
        obtain ⟨e1, e2, e3, e4⟩ := (hS k).mp hs
        exact h2 i k hi.1 e1 ⟨c1, c2, e, ⟨by rw [d4, e4], d3, e3⟩, c7⟩
theorem rch_no {w : Wv} {S : Nat → Prop} {a k : Nat} (ha : ¬ 0 < w (19 + 4 * a)) (h : Rch S (Ac w) a k) : k = a := by
  refine h (fun k => k = a) rfl (fun i k hi _ hA => ?_)
  obtain ⟨c1, c2, c3, ⟨c4, c5, c6⟩, c7⟩ := hA
  rw [hi] at c5
  exact absurd c5 ha
theorem if1_iff {P : Prop} [Decidable P] : (if P then (1 : Int) else 0) = 1 ↔ P := by
  by_cases q : P
  · rw [if_pos q]; exact ⟨fun _ => q, fun _ => rfl⟩
  · rw [if_neg q]; exact ⟨fun z => absurd z (by decide), fun z => absurd z q⟩
/-- two cuts of w are together when but those of M are left -/
def TgW (w : Wv) (M a b : Nat) : Prop := M.testBit a = true ∧ Rch (fun k => M.testBit k = true) (Am w) a b
theorem tog6 {σ : Hp} {j : Nat} {w : Wv} {Y : Int} {a b : Nat} (hR : RelW σ j w) (hw : WF Y w) (ha : (a : Int) < w 3) (hb : (b : Int) < w 3) (hne : a ≠ b) :
    ∃ r : Int, fX6_areTogether σ j a b = some (r, srow σ 10 0 (lkW w (σ 10 0))) ∧ (r = 0 ∨ r = 1) ∧ (r = 1 ↔ TgW w (onW w (w (16 + 4 * a))) a b) := by
  have h3 := hw.2.2.2.1
  obtain ⟨r, h1, h2, h4⟩ := reach_sp (τ := srow σ 10 0 (lkW w (σ 10 0))) (A := Ac w) (a := a) (M := 255) (by omega) (by omega) (fun i hi => by
    rw [srow_at]
    exact lkW_at hw hi)
  have e255 : fX2_reached (srow σ 10 0 (lkW w (σ 10 0))) a 255 = some ((r : Int), srow σ 10 0 (lkW w (σ 10 0))) := h1
  refine ⟨if r.testBit b = true then 1 else 0, ?_, ?_, ?_⟩
  · unfold fX6_areTogether
    rw [look_sp hR hw, cl_pos, e255, cl_pos, isInN (by omega) (by omega)]
  · split
    · exact Or.inr rfl
    · exact Or.inl rfl
  · rw [if1_iff, h4]
    have h255 : ∀ k : Nat, k < 8 → (255 : Nat).testBit k = true := fun k hk => by
      rw [show (255 : Nat) = 2 ^ 8 - 1 from rfl, Nat.testBit_two_pow_sub_one, decide_eq_true hk]
    by_cases q : 0 < w (19 + 4 * a)
    · have hM : (onW w (w (16 + 4 * a))).testBit a = true := (onW_bit h3.1).mpr ⟨ha, q, rfl⟩
      have hS : ∀ k : Nat, (onW w (w (16 + 4 * a))).testBit k = true ↔ ((255 : Nat).testBit k = true ∧ (k : Int) < w 3 ∧ 0 < w (19 + 4 * k) ∧ w (16 + 4 * k) = w (16 + 4 * a)) := fun k => by
        rw [onW_bit h3.1]
        exact ⟨fun z => ⟨h255 k (by have := z.1; omega), z⟩, fun z => z.2⟩
      have hc := rch_cm (w := w) (S := fun k => (255 : Nat).testBit k = true) (S' := fun k => (onW w (w (16 + 4 * a))).testBit k = true) (a := a) (k := b) (t := w (16 + 4 * a)) hS hM
      exact ⟨fun z => ⟨hM, hc.mp z⟩, fun z => hc.mpr z.2⟩
    · refine ⟨fun z => absurd (rch_no q z).symm hne, fun z => ?_⟩
      exact absurd ((onW_bit h3.1).mp z.1).2.1 q
theorem tog7 {σ : Hp} {s j : Nat} {w : Wv} {Y : Int} {a b g : Nat} (e : σ s j = w) (hl : 48 ≤ alen s) (hw : WF Y w) (ha : (a : Int) < w 3) (hb : (b : Int) < w 3) (hg : g < 2 ^ 31) :
    ∃ r : Int, fX7_areTogether σ s j a b g = some (r, σ) ∧ (r = 0 ∨ r = 1) ∧ (r = 1 ↔ TgW w (nd (onW w (w (16 + 4 * a))) g) a b) := by
  have h3 := hw.2.2.2.1
  have h2' := hw.2.2.1
  have ht := (hw.2.2.2.2.2 a ha).1
  have hla : (48 : Int) ≤ (alen s : Int) := by omega
  have hon := onW_lt hw (w (16 + 4 * a))
  have hN : nd (onW w (w (16 + 4 * a))) g < 2 ^ 8 := nd_lt hon
  obtain ⟨r, h1, h2, h4⟩ := ring7_sp (a := a) e hl hw hN (by omega)
  refine ⟨if r.testBit b = true then 1 else 0, ?_, ?_, ?_⟩
  · unfold fX7_areTogether
    rw [wr16c (by omega), gd_pos (by omega), Int.toNat_natCast, e, legO7 e hl hw (by omega), cl_pos, qnotN (by omega), h1, cl_pos, hasN (by omega) (by omega)]
  · split
    · exact Or.inr rfl
    · exact Or.inl rfl
  · rw [if1_iff, h4]
    exact Iff.rfl
