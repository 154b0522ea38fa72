/-! sizes and marks -/
def mkB (k g t : Int) : Int := if k = 2 then 2 * (t + g) else if k = 3 then t + g - 1000 else t + g
def mkL (k : Int) : List Int := if k = 2 then [24, 21, 20] else if k = 3 then [22, 21, 20] else [21, 20]
def szP (k su : Int) : Int := if k = 5 then 2 * (su - 100) else su - 100
def szL (k : Int) : List Int := if k = 5 then [14, 13, 10] else [13, 10]
def szB (k g su t : Int) : Int := if k = 2 then -(su + mkB k g t) else su + mkB k g t
def szM (k : Int) : List Int := (if k = 2 then [12, 11, 10] else [11, 10]) ++ mkL k
theorem mkB_in {k g t : Int} (hg : 0 ≤ g ∧ g ≤ 999) (ht : 0 ≤ t ∧ t < 4) : -2000 ≤ mkB k g t ∧ mkB k g t ≤ 4000 := by
  unfold mkB
  repeat' split
  all_goals omega
theorem nC_0 : ∀ (L : List Int) {σ : Hp}, (0 ≤ σ 0 0 1 ∧ σ 0 0 1 ≤ 16) → 0 ≤ nC σ L 0 0 1 ∧ nC σ L 0 0 1 ≤ 16 := by
  intro L
  induction L with
  | nil => intro σ h; exact h
  | cons v L ih => intro σ h; exact ih (cN_0 h)
theorem nM_0 : ∀ (L : List Int) {σ : Hp}, (0 ≤ σ 7 0 21 ∧ σ 7 0 21 ≤ 16) → 0 ≤ nM σ L 7 0 21 ∧ nM σ L 7 0 21 ≤ 16 := by
  intro L
  induction L with
  | nil => intro σ h; exact h
  | cons v L ih => intro σ h; exact ih (mN_0 h)
theorem nM_s {s : Nat} (h0 : s ≠ 7) (h8 : s ≠ 33) : ∀ (L : List Int) (σ : Hp), nM σ L s = σ s := by
  intro L
  induction L with
  | nil => intro σ; rfl
  | cons v L ih =>
    intro σ
    show nM (mN σ v) L s = σ s
    rw [ih, mN_s h0 h8]
theorem nC_app (σ : Hp) (L M : List Int) : nC (nC σ L) M = nC σ (L ++ M) := (List.foldl_append ..).symm
theorem nM_app (σ : Hp) (L M : List Int) : nM (nM σ L) M = nM σ (L ++ M) := (List.foldl_append ..).symm
theorem mkB6 {σ : Hp} {t : Nat} (ht : t < 4) (h : 0 ≤ σ 0 0 1 ∧ σ 0 0 1 ≤ 16) (hg : 0 ≤ σ 14 0 t ∧ σ 14 0 t ≤ 999) : fX0_markOfBeech σ 0 t = some (mkB (σ 13 0 t) (σ 14 0 t) t, nC σ (mkL (σ 13 0 t))) := by
  have w1 : wr (t + σ 14 0 t) = t + σ 14 0 t := wr_of (by omega) (by omega)
  have w2 : wr (2 * (t + σ 14 0 t)) = 2 * (t + σ 14 0 t) := wr_of (by omega) (by omega)
  have w3 : wr (t + σ 14 0 t - 1000) = t + σ 14 0 t - 1000 := wr_of (by omega) (by omega)
  unfold fX0_markOfBeech jX0_markOfBeech_32 mkB mkL
  rw [gd_pos (by omega), Int.toNat_natCast]
  by_cases q2 : σ 13 0 t = 2
  · simp only [if_pos q2]
    rw [note_sp h, cl_pos, note_sp (cN_0 h), cl_pos, note_sp (cN_0 (cN_0 h)), cl_pos, gd_pos (by omega)]
    simp (disch := omega) only [cN_s, w1, w2]
    rfl
  simp only [if_neg q2]
  by_cases q3 : σ 13 0 t = 3
  · simp only [if_pos q3]
    rw [note_sp h, cl_pos, note_sp (cN_0 h), cl_pos, note_sp (cN_0 (cN_0 h)), cl_pos, gd_pos (by omega)]
    simp (disch := omega) only [cN_s, w1, w3]
    rfl
  · simp only [if_neg q3]
    rw [note_sp h, cl_pos, note_sp (cN_0 h), cl_pos, gd_pos (by omega)]
    simp (disch := omega) only [cN_s, w1]
    rfl
theorem szB6 {σ : Hp} {t : Nat} (ht : t < 4) (h : 0 ≤ σ 0 0 1 ∧ σ 0 0 1 ≤ 16) (hs : 0 ≤ σ 15 0 t ∧ σ 15 0 t ≤ 9) (hg : 0 ≤ σ 14 0 t ∧ σ 14 0 t ≤ 999) : fX0_sizeOfBeech σ 0 t = some (szB (σ 13 0 t) (σ 14 0 t) (σ 15 0 t) t, nC σ (szM (σ 13 0 t))) := by
  have hm := mkB_in (k := σ 13 0 t) hg (t := t) (by omega)
  have w1 : wr (σ 15 0 t + mkB (σ 13 0 t) (σ 14 0 t) t) = σ 15 0 t + mkB (σ 13 0 t) (σ 14 0 t) t := wr_of (by omega) (by omega)
  have w2 : wr (-(σ 15 0 t + mkB (σ 13 0 t) (σ 14 0 t) t)) = -(σ 15 0 t + mkB (σ 13 0 t) (σ 14 0 t) t) := wr_of (by omega) (by omega)
  unfold fX0_sizeOfBeech jX0_sizeOfBeech_15 jX0_sizeOfBeech_26 szB szM
  rw [gd_pos (by omega), Int.toNat_natCast]
  by_cases q2 : σ 13 0 t = 2
  · simp only [if_pos q2]
    rw [if_neg (by omega), note_sp h, cl_pos, note_sp (cN_0 h), cl_pos, note_sp (cN_0 (cN_0 h)), cl_pos, gd_pos (by omega), mkB6 ht (cN_0 (cN_0 (cN_0 h))) (by simp (disch := omega) only [cN_s]; exact hg), cl_pos, if_neg (by omega)]
    simp (disch := omega) only [cN_s, w1, w2]
    rfl
  · simp only [if_neg q2]
    rw [if_pos trivial, note_sp h, cl_pos, note_sp (cN_0 h), cl_pos, gd_pos (by omega), mkB6 ht (cN_0 (cN_0 h)) (by simp (disch := omega) only [cN_s]; exact hg), cl_pos, if_pos trivial]
    simp (disch := omega) only [cN_s, w1]
    rfl
theorem wr4u {t : Nat} (h : t < 4) : wr (wr (4 + wr (3 * (t : Int))) + 1) = ((5 + 3 * t : Nat) : Int) ∧ wr (wr (4 + wr (3 * (t : Int))) + 2) = ((6 + 3 * t : Nat) : Int) := by
  rw [wr4t (by omega), wr_of (by omega) (by omega), wr_of (by omega) (by omega)]
  omega
theorem mkB7 {σ : Hp} {t : Nat} (ht : t < 4) (hk3 : 1 ≤ σ 27 0 (4 + 3 * t) ∧ σ 27 0 (4 + 3 * t) ≤ 3) (h : 0 ≤ σ 7 0 21 ∧ σ 7 0 21 ≤ 16) (hg : 0 ≤ σ 27 0 (5 + 3 * t) ∧ σ 27 0 (5 + 3 * t) ≤ 999) : fX7_beechMark σ t = some (mkB (σ 27 0 (4 + 3 * t)) (σ 27 0 (5 + 3 * t)) t, nM σ (mkL (σ 27 0 (4 + 3 * t)))) := by
  have w1 : wr (t + σ 27 0 (5 + 3 * t)) = t + σ 27 0 (5 + 3 * t) := wr_of (by omega) (by omega)
  have w2 : wr (2 * (t + σ 27 0 (5 + 3 * t))) = 2 * (t + σ 27 0 (5 + 3 * t)) := wr_of (by omega) (by omega)
  have w3 : wr (t + σ 27 0 (5 + 3 * t) - 1000) = t + σ 27 0 (5 + 3 * t) - 1000 := wr_of (by omega) (by omega)
  have hk : ∀ τ : Hp, τ 27 = σ 27 → fX7_kindIn τ t = some (σ 27 0 (4 + 3 * t), τ) := fun τ e => by rw [kindIn7 ht, e]
  unfold fX7_beechMark jX7_beechMark_27 mkB mkL
  rw [hk σ rfl, cl_pos, (wr4u ht).1]
  generalize σ 27 0 (4 + 3 * t) = k at hk3 ⊢
  by_cases q2 : k = 2
  · rw [if_neg (by omega)]
    simp only [if_pos q2]
    rw [begins_sp h, cl_pos, begins_sp (mN_0 h), cl_pos, begins_sp (mN_0 (mN_0 h)), cl_pos, gd_pos (by omega)]
    simp (disch := omega) only [mN_s, w1, w2, Int.toNat_natCast]
    rfl
  simp only [if_neg q2]
  by_cases q3 : k = 3
  · rw [if_neg (by omega)]
    simp only [if_pos q3]
    rw [begins_sp h, cl_pos, begins_sp (mN_0 h), cl_pos, begins_sp (mN_0 (mN_0 h)), cl_pos, gd_pos (by omega)]
    simp (disch := omega) only [mN_s, w1, w3, Int.toNat_natCast]
    rfl
  · rw [if_pos (by omega)]
    simp only [if_neg q3]
    rw [begins_sp h, cl_pos, begins_sp (mN_0 h), cl_pos, gd_pos (by omega)]
    simp (disch := omega) only [mN_s, w1, Int.toNat_natCast]
    rfl
theorem szP7 {σ : Hp} {t : Nat} (ht : t < 4) (h : 0 ≤ σ 7 0 21 ∧ σ 7 0 21 ≤ 16) (hs : 0 ≤ σ 27 0 (6 + 3 * t) ∧ σ 27 0 (6 + 3 * t) ≤ 9) : fX7_pineSize σ t = some (szP (σ 27 0 (4 + 3 * t)) (σ 27 0 (6 + 3 * t)), nM σ (szL (σ 27 0 (4 + 3 * t)))) := by
  have w1 : wr (σ 27 0 (6 + 3 * t) - 100) = σ 27 0 (6 + 3 * t) - 100 := wr_of (by omega) (by omega)
  have w2 : wr (2 * (σ 27 0 (6 + 3 * t) - 100)) = 2 * (σ 27 0 (6 + 3 * t) - 100) := wr_of (by omega) (by omega)
  unfold fX7_pineSize jX7_pineSize_14 jX7_pineSize_25 szP szL
  rw [kindIn7 ht, cl_pos, (wr4u ht).2]
  generalize σ 27 0 (4 + 3 * t) = k
  by_cases q2 : k = 5
  · rw [if_pos q2, if_pos q2, if_pos q2, if_neg (by omega), begins_sp h, cl_pos, begins_sp (mN_0 h), cl_pos, begins_sp (mN_0 (mN_0 h)), cl_pos, gd_pos (by omega), if_neg (by omega)]
    simp (disch := omega) only [mN_s, w1, w2, Int.toNat_natCast]
    rfl
  · rw [if_neg q2, if_neg q2, if_neg q2, if_pos rfl, begins_sp h, cl_pos, begins_sp (mN_0 h), cl_pos, gd_pos (by omega), if_pos rfl]
    simp (disch := omega) only [mN_s, w1, Int.toNat_natCast]
    rfl
theorem szB7 {σ : Hp} {t : Nat} (ht : t < 4) (hk3 : 1 ≤ σ 27 0 (4 + 3 * t) ∧ σ 27 0 (4 + 3 * t) ≤ 3) (h : 0 ≤ σ 7 0 21 ∧ σ 7 0 21 ≤ 16) (hs : 0 ≤ σ 27 0 (6 + 3 * t) ∧ σ 27 0 (6 + 3 * t) ≤ 9) (hg : 0 ≤ σ 27 0 (5 + 3 * t) ∧ σ 27 0 (5 + 3 * t) ≤ 999) : fX7_beechSize σ t = some (szB (σ 27 0 (4 + 3 * t)) (σ 27 0 (5 + 3 * t)) (σ 27 0 (6 + 3 * t)) t, nM σ (szM (σ 27 0 (4 + 3 * t)))) := by
  have hm := mkB_in (k := σ 27 0 (4 + 3 * t)) hg (t := t) (by omega)
  have w1 : wr (σ 27 0 (6 + 3 * t) + mkB (σ 27 0 (4 + 3 * t)) (σ 27 0 (5 + 3 * t)) t) = σ 27 0 (6 + 3 * t) + mkB (σ 27 0 (4 + 3 * t)) (σ 27 0 (5 + 3 * t)) t := wr_of (by omega) (by omega)
  have w2 : wr (-(σ 27 0 (6 + 3 * t) + mkB (σ 27 0 (4 + 3 * t)) (σ 27 0 (5 + 3 * t)) t)) = -(σ 27 0 (6 + 3 * t) + mkB (σ 27 0 (4 + 3 * t)) (σ 27 0 (5 + 3 * t)) t) := wr_of (by omega) (by omega)
  unfold fX7_beechSize jX7_beechSize_14 jX7_beechSize_25 szB szM
  rw [kindIn7 ht, cl_pos, (wr4u ht).2]
  by_cases q2 : σ 27 0 (4 + 3 * t) = 2
  · simp only [if_pos q2]
    rw [if_neg (by omega), begins_sp h, cl_pos, begins_sp (mN_0 h), cl_pos, begins_sp (mN_0 (mN_0 h)), cl_pos, gd_pos (by omega), mkB7 ht (by simp (disch := omega) only [mN_s]; exact hk3) (mN_0 (mN_0 (mN_0 h))) (by simp (disch := omega) only [mN_s]; exact hg), cl_pos, if_neg (by omega)]
    simp (disch := omega) only [mN_s, w1, w2, Int.toNat_natCast]
    rfl
  · simp only [if_neg q2]
    rw [if_pos trivial, begins_sp h, cl_pos, begins_sp (mN_0 h), cl_pos, gd_pos (by omega), mkB7 ht (by simp (disch := omega) only [mN_s]; exact hk3) (mN_0 (mN_0 h)) (by simp (disch := omega) only [mN_s]; exact hg), cl_pos, if_pos trivial]
    simp (disch := omega) only [mN_s, w1, Int.toNat_natCast]
    rfl
theorem szP6 {σ : Hp} {t : Nat} (ht : t < 4) (h : 0 ≤ σ 0 0 1 ∧ σ 0 0 1 ≤ 16) (hs : 0 ≤ σ 15 0 t ∧ σ 15 0 t ≤ 9) : fX0_sizeOfPine σ 0 t = some (szP (σ 13 0 t) (σ 15 0 t), nC σ (szL (σ 13 0 t))) := by
  have w1 : wr (σ 15 0 t - 100) = σ 15 0 t - 100 := wr_of (by omega) (by omega)
  have w2 : wr (2 * (σ 15 0 t - 100)) = 2 * (σ 15 0 t - 100) := wr_of (by omega) (by omega)
  unfold fX0_sizeOfPine jX0_sizeOfPine_15 jX0_sizeOfPine_26 szP szL
  rw [gd_pos (by omega), Int.toNat_natCast]
  by_cases q2 : σ 13 0 t = 5
  · rw [if_pos q2, if_pos q2, if_pos q2, if_neg (by omega), note_sp h, cl_pos, note_sp (cN_0 h), cl_pos, note_sp (cN_0 (cN_0 h)), cl_pos, gd_pos (by omega), if_neg (by omega)]
    simp (disch := omega) only [cN_s, w1, w2]
    rfl
  · rw [if_neg q2, if_neg q2, if_neg q2, if_pos rfl, note_sp h, cl_pos, note_sp (cN_0 h), cl_pos, gd_pos (by omega), if_pos rfl]
    simp (disch := omega) only [cN_s, w1]
    rfl
