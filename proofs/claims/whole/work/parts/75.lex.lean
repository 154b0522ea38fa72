/-! the text: bytes, runs of figures -/
def bat (b : Nat → Int) (L p : Nat) : Int := if p < L then b p else -1
abbrev isFg (c : Int) : Prop := 48 ≤ c ∧ c ≤ 57
def isRun (b : Nat → Int) (L p m : Nat) : Prop := p + m ≤ L ∧ (∀ k, k < m → isFg (b (p + k))) ∧ (p + m = L ∨ ¬ isFg (b (p + m)))
theorem run_ex (b : Nat → Int) (L : Nat) : ∀ (d p : Nat), p + d = L → ∃ m, isRun b L p m := by
  intro d
  induction d with
  | zero => intro p hp; exact ⟨0, by omega, fun k hk => by omega, Or.inl (by omega)⟩
  | succ d ih =>
    intro p hp
    by_cases q : isFg (b p)
    · obtain ⟨m, h1, h2, h4⟩ := ih (p + 1) (by omega)
      refine ⟨m + 1, by omega, fun k hk => ?_, ?_⟩
      · by_cases e : k = 0
        · subst e; exact q
        · have := h2 (k - 1) (by omega)
          rw [show p + 1 + (k - 1) = p + k by omega] at this
          exact this
      · rw [show p + (m + 1) = p + 1 + m by omega]
        exact h4
    · exact ⟨0, by omega, fun k hk => by omega, Or.inr q⟩
theorem run_un {b : Nat → Int} {L p m m' : Nat} (h : isRun b L p m) (h' : isRun b L p m') : m = m' := by
  obtain ⟨h1, h2, h4⟩ := h
  obtain ⟨g1, g2, g4⟩ := h'
  rcases Nat.lt_trichotomy m m' with q | q | q
  · rcases h4 with z | z
    · omega
    · exact absurd (g2 m q) z
  · exact q
  · rcases g4 with z | z
    · omega
    · exact absurd (h2 m' q) z
def numv (b : Nat → Int) (p : Nat) : Nat → Int
  | 0 => 0
  | m + 1 => if m < 2 then 10 * numv b p m + b (p + m) - 48 else numv b p m
theorem numv_in {b : Nat → Int} {p : Nat} : ∀ m, (∀ k, k < m → isFg (b (p + k))) → 0 ≤ numv b p m ∧ numv b p m ≤ 99 ∧ (m = 0 → numv b p m ≤ 0) ∧ (m = 1 → numv b p m ≤ 9) := by
  intro m
  induction m with
  | zero => intro _; exact ⟨Int.le_refl _, by show (0 : Int) ≤ 99; omega, fun _ => Int.le_refl _, fun z => by omega⟩
  | succ m ih =>
    intro h
    obtain ⟨h1, h2, h4, h5⟩ := ih (fun k hk => h k (by omega))
    have hb := h m (by omega)
    have e : numv b p (m + 1) = if m < 2 then 10 * numv b p m + b (p + m) - 48 else numv b p m := rfl
    rw [e]
    by_cases q : m < 2
    · rw [if_pos q]
      by_cases q0 : m = 0
      · have := h4 q0; omega
      · have := h5 (by omega); omega
    · rw [if_neg q]; omega
theorem bat_in {b : Nat → Int} {L p : Nat} (hb : ∀ k, k < L → 0 ≤ b k ∧ b k ≤ 255) : -1 ≤ bat b L p ∧ bat b L p ≤ 255 := by
  unfold bat
  split
  · rename_i h; have := hb p h; omega
  · omega
theorem bat_run {b : Nat → Int} {L p m k : Nat} (h : isRun b L p m) (hk : k < m) : isFg (bat b L (p + k)) := by
  unfold bat
  rw [if_pos (by have := h.1; omega)]
  exact h.2.1 k hk
theorem bat_end {b : Nat → Int} {L p m : Nat} (h : isRun b L p m) : ¬ isFg (bat b L (p + m)) := by
  unfold bat
  rcases h.2.2 with z | z
  · rw [if_neg (by omega)]; omega
  · split
    · exact z
    · omega
/-! the class reads -/
def Cc (b : Nat → Int) (L : Nat) (σ : Hp) (p : Nat) : Prop := (∀ k, k < L → σ 12 0 k = b k) ∧ σ 4 0 1 = (L : Int) ∧ σ 4 0 4 = (p : Int)
def Cf (σ : Hp) (k q : Nat) : Prop := σ 4 0 2 = (k : Int) ∧ σ 4 0 3 = (q : Int)
def oC (σ σ' : Hp) : Prop := (∀ s j, s ≠ 4 → σ' s j = σ s j) ∧ σ' 4 0 1 = σ 4 0 1
theorem oC.rf {σ : Hp} : oC σ σ := ⟨fun _ _ _ => rfl, rfl⟩
theorem oC.tr {σ σ' σ'' : Hp} (h : oC σ σ') (h' : oC σ' σ'') : oC σ σ'' := ⟨fun s j hs => (h'.1 s j hs).trans (h.1 s j hs), h'.2.trans h.2⟩
theorem Cc.to {b : Nat → Int} {L : Nat} {σ : Hp} {p q : Nat} (h : Cc b L σ p) : Cc b L (hup σ 4 0 4 q) q ∧ oC σ (hup σ 4 0 4 q) := ⟨⟨fun k hk => by rw [hup_s (by omega)]; exact h.1 k hk, by rw [hup_k (by omega)]; exact h.2.1, hup_at _ _ _ _ _⟩, fun s j hs => by rw [hup_s hs], hup_k (by omega)⟩
theorem here4 {b : Nat → Int} {L : Nat} {σ : Hp} {p : Nat} (hL : L ≤ 140) (h : Cc b L σ p) : fX4_here σ = some (bat b L p, σ) := by
  unfold fX4_here bat
  rw [h.2.1, h.2.2]
  by_cases q : p < L
  · rw [if_neg (by omega), gd_pos (by omega), Int.toNat_natCast, h.1 p q, if_pos q]
  · rw [if_pos (by omega), if_neg q]
theorem fails4 (σ : Hp) (k q : Nat) : fX4_fails σ k q = some (0, hup (hup σ 4 0 2 k) 4 0 3 q) ∧ Cf (hup (hup σ 4 0 2 k) 4 0 3 q) k q ∧ oC σ (hup (hup σ 4 0 2 k) 4 0 3 q) :=
  ⟨rfl, ⟨by rw [hup_k (by omega), hup_at], hup_at _ _ _ _ _⟩, fun s j hs => by rw [hup_s hs, hup_s hs], by rw [hup_k (by omega), hup_k (by omega)]⟩
theorem reads_ok {b : Nat → Int} {L : Nat} {σ : Hp} {p : Nat} {v : Int} (hL : L ≤ 140) (h : Cc b L σ p) (hv : bat b L p = v) (h0 : 0 ≤ v) : p < L ∧ ∃ σ', fX4_reads σ v = some (1, σ') ∧ Cc b L σ' (p + 1) ∧ oC σ σ' := by
  have hp : p < L := by
    unfold bat at hv
    split at hv
    · assumption
    · omega
  have e : wr ((p : Int) + 1) = ((p + 1 : Nat) : Int) := by rw [wr_of (by omega) (by omega)]; omega
  refine ⟨hp, hup σ 4 0 4 ((p + 1 : Nat) : Int), ?_, h.to⟩
  unfold fX4_reads
  rw [here4 hL h, cl_pos, if_pos hv, h.2.2, e]
  rfl
theorem reads_no {b : Nat → Int} {L : Nat} {σ : Hp} {p : Nat} {v : Int} (hL : L ≤ 140) (h : Cc b L σ p) (hv : bat b L p ≠ v) : ∃ σ', fX4_reads σ v = some (0, σ') ∧ Cf σ' 1 p ∧ oC σ σ' := by
  obtain ⟨f1, f2, f3⟩ := fails4 σ 1 p
  refine ⟨_, ?_, f2, f3⟩
  unfold fX4_reads
  rw [here4 hL h, cl_pos, if_neg hv, h.2.2]
  have f1' : fX4_fails σ 1 p = some (0, hup (hup σ 4 0 2 ((1 : Nat) : Int)) 4 0 3 p) := f1
  rw [f1', cl_pos, gd_pos (by omega)]
theorem fig4 {c : Int} : fX4_isFigure c = 0 ↔ ¬ isFg c := by
  unfold fX4_isFigure
  repeat' split
  all_goals omega
theorem num4_l {b : Nat → Int} {L : Nat} {p m : Nat} {lo hi : Int} (hL : L ≤ 140) (hr : isRun b L p m) : ∀ (d c n : Nat) (σ : Hp), c + d = m → d + 1 ≤ n → Cc b L σ p → lX4_numberRead_14 n σ lo hi p (numv b p c) ((p + c : Nat) : Int) = jX4_numberRead_73 σ lo hi p (numv b p m) ((p + m : Nat) : Int) := by
  intro d
  induction d with
  | zero =>
    intro c n σ hc hn h
    obtain ⟨n, rfl⟩ : ∃ m, n = m + 1 := ⟨n - 1, by omega⟩
    obtain rfl : c = m := by omega
    have hle := hr.1
    rw [lX4_numberRead_14_e0, h.2.1]
    by_cases q : p + c = L
    · rw [if_pos (by omega)]
    · rw [if_neg (by omega), gd_pos (by omega), Int.toNat_natCast, h.1 (p + c) (by omega), if_pos (fig4.mpr (hr.2.2.resolve_left q))]
  | succ d ih =>
    intro c n σ hc hn h
    obtain ⟨n, rfl⟩ : ∃ m, n = m + 1 := ⟨n - 1, by omega⟩
    have hle := hr.1
    have hfg := hr.2.1 c (by omega)
    have hnv := numv_in (b := b) (p := p) c (fun k hk => hr.2.1 k (by omega))
    have e5 : wr (((p + c : Nat) : Int) + 1) = ((p + (c + 1) : Nat) : Int) := by rw [wr_of (by omega) (by omega)]; omega
    have e6 : wr (((p + c : Nat) : Int) - (p : Int)) = (c : Int) := by rw [wr_of (by omega) (by omega)]; omega
    have eN : numv b p (c + 1) = if c < 2 then 10 * numv b p c + b (p + c) - 48 else numv b p c := rfl
    have iht := ih (c + 1) n σ (by omega) (by omega) h
    rw [lX4_numberRead_14_e0, h.2.1, if_neg (by omega), gd_pos (by omega), Int.toNat_natCast, h.1 (p + c) (by omega), if_neg (fun z => fig4.mp z hfg), e6, e5]
    by_cases q : c < 2
    · rw [if_pos q] at eN
      rw [if_neg (by omega), gd_pos (by omega), wr_of (x := 10 * numv b p c) (by omega) (by omega), wr_of (x := 10 * numv b p c + b (p + c)) (by omega) (by omega), wr_of (by omega) (by omega), ← eN]
      exact iht
    · rw [if_neg q] at eN
      rw [if_pos (by omega), ← eN]
      exact iht
theorem num4 {b : Nat → Int} {L : Nat} {p m : Nat} {lo hi : Int} {σ : Hp} (hL : L ≤ 140) (hr : isRun b L p m) (h : Cc b L σ p) : fX4_numberRead σ lo hi = jX4_numberRead_73 σ lo hi p (numv b p m) ((p + m : Nat) : Int) := by
  have hle := hr.1
  have hl := num4_l (lo := lo) (hi := hi) hL hr m 0 FU σ (by omega) (by rw [FU_eq]; omega) h
  unfold fX4_numberRead
  rw [h.2.2]
  exact hl
theorem num_ok {b : Nat → Int} {L : Nat} {p m : Nat} {lo hi : Int} {σ : Hp} (hL : L ≤ 140) (hr : isRun b L p m) (h : Cc b L σ p) (hm : 1 ≤ m ∧ m ≤ 2) (hv : lo ≤ numv b p m ∧ numv b p m ≤ hi) : ∃ σ', fX4_numberRead σ lo hi = some (numv b p m, σ') ∧ Cc b L σ' (p + m) ∧ oC σ σ' := by
  have hle := hr.1
  refine ⟨hup σ 4 0 4 ((p + m : Nat) : Int), ?_, h.to⟩
  rw [num4 hL hr h]
  unfold jX4_numberRead_73
  rw [if_neg (by omega), wr_of (by omega) (by omega), if_pos (by omega), if_neg (by omega), if_pos (by omega)]
  rfl
theorem num_no {b : Nat → Int} {L : Nat} {p m : Nat} {lo hi : Int} {σ : Hp} (hL : L ≤ 140) (hr : isRun b L p m) (h : Cc b L σ p) (hv : ¬ ((1 ≤ m ∧ m ≤ 2) ∧ lo ≤ numv b p m ∧ numv b p m ≤ hi)) : ∃ σ', fX4_numberRead σ lo hi = some (-1, σ') ∧ Cf σ' (if 1 ≤ m ∧ m ≤ 2 then 2 else 1) p ∧ oC σ σ' := by
  have hle := hr.1
  obtain ⟨f1, f2, f3⟩ := fails4 σ (if 1 ≤ m ∧ m ≤ 2 then 2 else 1) p
  refine ⟨_, ?_, f2, f3⟩
  rw [num4 hL hr h]
  unfold jX4_numberRead_73
  by_cases q0 : m = 0
  · rw [if_neg (show ¬ (1 ≤ m ∧ m ≤ 2) by omega)] at f1 ⊢
    have f1' : fX4_fails σ 1 p = some (0, hup (hup σ 4 0 2 ((1 : Nat) : Int)) 4 0 3 p) := f1
    rw [if_pos (by omega), f1', cl_pos]
  by_cases q2 : m ≤ 2
  · rw [if_pos (show 1 ≤ m ∧ m ≤ 2 by omega)] at f1 ⊢
    have f1' : fX4_fails σ 2 p = some (0, hup (hup σ 4 0 2 ((2 : Nat) : Int)) 4 0 3 p) := f1
    rw [if_neg (by omega), wr_of (by omega) (by omega), if_pos (by omega), f1', cl_pos]
    by_cases q3 : numv b p m < lo
    · rw [if_pos q3]
    · rw [if_neg q3, if_neg (by omega)]
  · rw [if_neg (show ¬ (1 ≤ m ∧ m ≤ 2) by omega)] at f1 ⊢
    have f1' : fX4_fails σ 1 p = some (0, hup (hup σ 4 0 2 ((1 : Nat) : Int)) 4 0 3 p) := f1
    rw [if_neg (by omega), wr_of (by omega) (by omega), if_neg (by omega), f1', cl_pos]
/-! the model reads -/
def tokK (c : Int) : Int := if c < 0 then 0 else if 97 ≤ c ∧ c ≤ 122 then 1 else if c = 44 then 3 else if c = 59 then 4 else 5
def Lx (b : Nat → Int) (L : Nat) (τ : Hp) (p m : Nat) : Prop := (m = 0 → τ 7 0 12 = bat b L p ∧ τ 7 0 11 = tokK (bat b L p) ∧ τ 7 0 9 = (if bat b L p < 0 then (p : Int) else ((p + 1 : Nat) : Int))) ∧ (0 < m → τ 7 0 12 = numv b p m ∧ τ 7 0 11 = (if m < 3 then 2 else 5) ∧ τ 7 0 9 = ((p + m : Nat) : Int))
def Mt (b : Nat → Int) (L : Nat) (fk : Int) (τ : Hp) : Prop := (∀ k, k < L → τ 26 0 k = b k) ∧ τ 7 0 6 = (L : Int) ∧ τ 7 0 7 = fk ∧ τ 7 0 8 = -1
def Mw (b : Nat → Int) (L : Nat) (fk : Int) (τ : Hp) (p : Nat) : Prop := Mt b L fk τ ∧ τ 7 0 10 = (p : Int) ∧ ∀ m, isRun b L p m → Lx b L τ p m
def Mf (τ : Hp) (k q : Nat) : Prop := τ 7 0 7 = (k : Int) ∧ τ 7 0 8 = (q : Int)
def oM (τ τ' : Hp) : Prop := (∀ s j, s ≠ 7 → τ' s j = τ s j) ∧ ∀ k, (k < 7 ∨ 12 < k) → τ' 7 0 k = τ 7 0 k
theorem oM.rf {τ : Hp} : oM τ τ := ⟨fun _ _ _ => rfl, fun _ _ => rfl⟩
theorem oM.tr {τ τ' τ'' : Hp} (h : oM τ τ') (h' : oM τ' τ'') : oM τ τ'' := ⟨fun s j hs => (h'.1 s j hs).trans (h.1 s j hs), fun k hk => (h'.2 k hk).trans (h.2 k hk)⟩
theorem byte7 {b : Nat → Int} {L : Nat} {τ : Hp} {p : Nat} (hL : L ≤ 140) (ht : ∀ k, k < L → τ 26 0 k = b k) (h6 : τ 7 0 6 = (L : Int)) : fX7_byteAt τ p = some (bat b L p, τ) := by
  unfold fX7_byteAt bat
  rw [h6]
  by_cases q : p < L
  · rw [if_neg (by omega), gd_pos (by omega), Int.toNat_natCast, ht p q, if_pos q]
  · rw [if_pos (by omega), if_neg q]
theorem adv_l {b : Nat → Int} {L : Nat} {p m : Nat} (hL : L ≤ 140) (hr : isRun b L p m) : ∀ (d c n : Nat) (τ : Hp), c + d = m → 2 * d + 1 ≤ n → (∀ k, k < L → τ 26 0 k = b k) → τ 7 0 6 = (L : Int) → τ 7 0 10 = (p : Int) → τ 7 0 9 = ((p + c : Nat) : Int) → τ 7 0 12 = numv b p c →
    ∃ τ', lX7_advances_38 n 0 τ 0 = some (0, τ') ∧ τ' 7 0 12 = numv b p m ∧ τ' 7 0 11 = (if m < 3 then 2 else 5) ∧ τ' 7 0 9 = ((p + m : Nat) : Int) ∧ (∀ s j, s ≠ 7 → τ' s j = τ s j) ∧ ∀ k, k ≠ 9 → k ≠ 11 → k ≠ 12 → τ' 7 0 k = τ 7 0 k := by
  have hle := hr.1
  intro d
  induction d with
  | zero =>
    intro c n τ hc hn ht h6 h10 h9 h12
    obtain ⟨n, rfl⟩ : ∃ m, n = m + 1 := ⟨n - 1, by omega⟩
    obtain rfl : c = m := by omega
    refine ⟨hup τ 7 0 11 (if c < 3 then 2 else 5), ?_, by rw [hup_k (by omega)]; exact h12, hup_at _ _ _ _ _, by rw [hup_k (by omega)]; exact h9, fun s j hs => by rw [hup_s hs], fun k h1 h2 h4 => hup_k h2⟩
    rw [lX7_advances_38_e0, h9, byte7 hL ht h6, cl_pos, if_pos (in_0.mpr (bat_end hr)), h9, h10, wr_of (by omega) (by omega)]
    by_cases q : c < 3
    · rw [if_neg (by omega), if_pos q]; rfl
    · rw [if_pos (by omega), if_neg q]; rfl
  | succ d ih =>
    intro c n τ hc hn ht h6 h10 h9 h12
    obtain ⟨n, rfl⟩ : ∃ m, n = m + 1 + 1 := ⟨n - 2, by omega⟩
    have hfg := hr.2.1 c (by omega)
    have hbt : bat b L (p + c) = b (p + c) := if_pos (by omega)
    have hnv := numv_in (b := b) (p := p) c (fun k hk => hr.2.1 k (by omega))
    have e6 : wr (((p + c : Nat) : Int) - (p : Int)) = (c : Int) := by rw [wr_of (by omega) (by omega)]; omega
    have e5 : wr (((p + c : Nat) : Int) + 1) = ((p + (c + 1) : Nat) : Int) := by rw [wr_of (by omega) (by omega)]; omega
    have eN : numv b p (c + 1) = if c < 2 then 10 * numv b p c + b (p + c) - 48 else numv b p c := rfl
    have go : ∃ τ', lX7_advances_38 (n + 1) 1 τ (numv b p (c + 1)) = some (0, τ') ∧ τ' 7 0 12 = numv b p m ∧ τ' 7 0 11 = (if m < 3 then 2 else 5) ∧ τ' 7 0 9 = ((p + m : Nat) : Int) ∧ (∀ s j, s ≠ 7 → τ' s j = τ s j) ∧ ∀ k, k ≠ 9 → k ≠ 11 → k ≠ 12 → τ' 7 0 k = τ 7 0 k := by
      obtain ⟨τ', q1, q2, q3, q4, q5, q6⟩ := ih (c + 1) n (hup (hup τ 7 0 12 (numv b p (c + 1))) 7 0 9 ((p + (c + 1) : Nat) : Int)) (by omega) (by omega) (fun k hk => by rw [hup_s (by omega), hup_s (by omega)]; exact ht k hk) (by rw [hup_k (by omega), hup_k (by omega)]; exact h6) (by rw [hup_k (by omega), hup_k (by omega)]; exact h10) (hup_at _ _ _ _ _) (by rw [hup_k (by omega), hup_at])
      refine ⟨τ', ?_, q2, q3, q4, fun s j hs => by rw [q5 s j hs, hup_s hs, hup_s hs], fun k h1 h2 h4 => by rw [q6 k h1 h2 h4, hup_k h1, hup_k h4]⟩
      rw [lX7_advances_38_e1]
      simp only [sq]
      rw [show hup τ 7 0 12 (numv b p (c + 1)) 7 0 9 = ((p + c : Nat) : Int) from by rw [hup_k (by omega)]; exact h9, e5]
      exact q1
    rw [lX7_advances_38_e0, h9, byte7 hL ht h6, cl_pos, if_neg (in_1 (bat_run hr (by omega))), h9, h10, e6, h12]
    by_cases q : c < 2
    · rw [if_pos q] at eN
      rw [if_neg (by omega), byte7 hL ht h6, cl_pos, hbt, wr_of (x := 10 * numv b p c) (by omega) (by omega), wr_of (x := 10 * numv b p c + b (p + c)) (by omega) (by omega), wr_of (by omega) (by omega), ← eN]
      exact go
    · rw [if_neg q] at eN
      rw [if_pos (by omega), ← eN]
      exact go
theorem adv7 {b : Nat → Int} {L : Nat} {fk : Int} {τ : Hp} {p : Nat} (hL : L ≤ 140) (hb : ∀ k, k < L → 0 ≤ b k ∧ b k ≤ 255) (h : Mt b L fk τ) (h9 : τ 7 0 9 = (p : Int)) (hp : p ≤ L) : ∃ τ', fX7_advances τ = some (0, τ') ∧ Mw b L fk τ' p ∧ oM τ τ' := by
  obtain ⟨ht, h6, h7, h8⟩ := h
  obtain ⟨m, hr⟩ := run_ex b L (L - p) p (by omega)
  have hbi := bat_in (p := p) hb
  obtain ⟨τ1, hτ1⟩ : ∃ τ1, τ1 = hup τ 7 0 10 (p : Int) := ⟨_, rfl⟩
  have t1 : ∀ k, k < L → τ1 26 0 k = b k := fun k hk => by rw [hτ1, hup_s (by omega)]; exact ht k hk
  have t6 : τ1 7 0 6 = (L : Int) := by rw [hτ1, hup_k (by omega)]; exact h6
  have t9 : τ1 7 0 9 = (p : Int) := by rw [hτ1, hup_k (by omega)]; exact h9
  have e0 : fX7_advances τ = sq (hup τ1 7 0 12 (bat b L p)) (fun σ9 => if fX7_in (bat b L p) 48 57 = 0 then if 0 ≤ bat b L p then if fX7_in (bat b L p) 97 122 = 0 then if bat b L p = 44 then jX7_advances_180 σ9 3 else if bat b L p = 59 then jX7_advances_180 σ9 4 else jX7_advances_180 σ9 5 else jX7_advances_180 σ9 1 else jX7_advances_180 σ9 0 else sq (hup σ9 7 0 12 0) (fun σ19 => lX7_advances_38 FU 0 σ19 0)) := by
    unfold fX7_advances
    rw [h9, ← hτ1]
    simp only [sq]
    rw [t9, byte7 hL t1 t6, cl_pos]
  by_cases q : m = 0
  · subst q
    have hnf : ¬ isFg (bat b L p) := bat_end hr
    have e180 : ∀ k : Int, jX7_advances_180 (hup τ1 7 0 12 (bat b L p)) k = some (0, hup (hup (hup τ1 7 0 12 (bat b L p)) 7 0 11 k) 7 0 9 (if k = 0 then (p : Int) else ((p + 1 : Nat) : Int))) := by
      intro k
      unfold jX7_advances_180
      simp only [sq]
      have f11 : hup (hup τ1 7 0 12 (bat b L p)) 7 0 11 k 7 0 11 = k := hup_at _ _ _ _ _
      have f9 : hup (hup τ1 7 0 12 (bat b L p)) 7 0 11 k 7 0 9 = (p : Int) := by rw [hup_k (by omega), hup_k (by omega), t9]
      rw [f11, f9, wr_of (x := (p : Int) + 0) (by omega) (by omega), wr_of (x := (p : Int) + 1) (by omega) (by omega)]
      by_cases qk : k = 0
      · rw [if_pos qk, if_pos qk, Int.add_zero]
      · rw [if_neg qk, if_neg qk, show ((p + 1 : Nat) : Int) = (p : Int) + 1 by omega]
    have e1 : fX7_advances τ = jX7_advances_180 (hup τ1 7 0 12 (bat b L p)) (tokK (bat b L p)) := by
      rw [e0]
      show (if fX7_in (bat b L p) 48 57 = 0 then _ else _) = _
      rw [if_pos (in_0.mpr hnf)]
      unfold tokK
      by_cases c0 : bat b L p < 0
      · rw [if_neg (by omega), if_pos c0]
      · rw [if_pos (by omega), if_neg c0]
        by_cases c1 : 97 ≤ bat b L p ∧ bat b L p ≤ 122
        · rw [if_neg (in_1 c1), if_pos c1]
        · rw [if_pos (in_0.mpr c1), if_neg c1]
          by_cases c2 : bat b L p = 44
          · rw [if_pos c2, if_pos c2]
          · rw [if_neg c2, if_neg c2]
            by_cases c3 : bat b L p = 59
            · rw [if_pos c3, if_pos c3]
            · rw [if_neg c3, if_neg c3]
    have hk0 : tokK (bat b L p) = 0 ↔ bat b L p < 0 := by
      unfold tokK
      repeat' split
      all_goals omega
    refine ⟨_, e1.trans (e180 _), ⟨⟨fun k hk => by simp (disch := omega) only [hup_s]; exact t1 k hk, ?_, ?_, ?_⟩, ?_, fun m' hm' => ?_⟩, fun s j hs => ?_, fun k hk => ?_⟩
    · simp (disch := omega) only [hup_k]; exact t6
    · simp (disch := omega) only [hup_k]; rw [hτ1, hup_k (by omega)]; exact h7
    · simp (disch := omega) only [hup_k]; rw [hτ1, hup_k (by omega)]; exact h8
    · simp (disch := omega) only [hup_k]; rw [hτ1, hup_at]
    · have em : m' = 0 := run_un hm' hr
      subst em
      refine ⟨fun _ => ⟨?_, ?_, ?_⟩, fun z => by omega⟩
      · simp (disch := omega) only [hup_k]; exact hup_at _ _ _ _ _
      · simp (disch := omega) only [hup_k]; exact hup_at _ _ _ _ _
      · rw [hup_at]
        by_cases z : bat b L p < 0
        · rw [if_pos (hk0.mpr z), if_pos z]
        · rw [if_neg (fun y => z (hk0.mp y)), if_neg z]
    · simp (disch := omega) only [hup_s]; rw [hτ1, hup_s hs]
    · rw [hup_k (by omega), hup_k (by omega), hup_k (by omega), hτ1, hup_k (by omega)]
  · have hfg : isFg (bat b L p) := by
      have := bat_run hr (k := 0) (by omega)
      rw [Nat.add_zero] at this
      exact this
    obtain ⟨τ', q1, q2, q3, q4, q5, q6⟩ := adv_l hL hr m 0 FU (hup (hup τ1 7 0 12 (bat b L p)) 7 0 12 0) (by omega) (by have := hr.1; rw [FU_eq]; omega) (fun k hk => by rw [hup_s (by omega), hup_s (by omega)]; exact t1 k hk) (by rw [hup_k (by omega), hup_k (by omega)]; exact t6) (by rw [hup_k (by omega), hup_k (by omega), hτ1, hup_at]) (by rw [hup_k (by omega), hup_k (by omega)]; exact t9) (hup_at _ _ _ _ _)
    have sm : ∀ k, k ≠ 9 → k ≠ 11 → k ≠ 12 → k ≠ 10 → τ' 7 0 k = τ 7 0 k := fun k h1 h2 h4 h5 => by rw [q6 k h1 h2 h4, hup_k h4, hup_k h4, hτ1, hup_k h5]
    have so : ∀ s j, s ≠ 7 → τ' s j = τ s j := fun s j hs => by rw [q5 s j hs, hup_s hs, hup_s hs, hτ1, hup_s hs]
    refine ⟨τ', ?_, ⟨⟨fun k hk => by rw [so 26 0 (by omega)]; exact ht k hk, by rw [sm 6 (by omega) (by omega) (by omega) (by omega)]; exact h6, by rw [sm 7 (by omega) (by omega) (by omega) (by omega)]; exact h7, by rw [sm 8 (by omega) (by omega) (by omega) (by omega)]; exact h8⟩, ?_, fun m' hm' => ?_⟩, so, fun k hk => sm k (by omega) (by omega) (by omega) (by omega)⟩
    · rw [e0]
      show (if fX7_in (bat b L p) 48 57 = 0 then _ else _) = _
      rw [if_neg (in_1 hfg)]
      exact q1
    · rw [q6 10 (by omega) (by omega) (by omega), hup_k (by omega), hup_k (by omega), hτ1, hup_at]
    · have em : m' = m := run_un hm' hr
      subst em
      exact ⟨fun z => absurd z q, fun _ => ⟨q2, q3, q4⟩⟩
